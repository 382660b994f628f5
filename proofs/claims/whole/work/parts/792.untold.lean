def FVc (q : Nat) (μ0 μ : Mem) : Prop := (∀ j, ¬ (q ≤ j ∧ j ≤ q + 3) → μ.1 j = μ0.1 j) ∧ (∀ k, k ≠ 4 → μ.1 q k = μ0.1 q k) ∧ μ.2 = μ0.2
def UQ (q : Nat) (C : List (Int32 × Int32)) (S : List Nat) (μ0 μ : Mem) : Prop := μ.1 q 4 = nI C.length ∧ (∀ k p, C[k]? = some p → μ.1 (q + 1) k = p.1 ∧ μ.1 (q + 2) k = p.2) ∧ (∀ k s, S[k]? = some s → μ.1 (q + 3) k = nI s) ∧ FVc q μ0 μ
theorem UQ_app {q : Nat} {C : List (Int32 × Int32)} {S : List Nat} {μ0 μ : Mem} {x y : Int32} {α : Type} {F : Mem → Option α} {Q : α → Prop} (h : UQ q C S μ0 μ) (hl : C.length < 416) (hc : ∀ μ', UQ q (C ++ [(x, y)]) S μ0 μ' → Wo (F μ') Q) : Wo (b1 (fX1_append q x y μ) F) Q := by
  obtain ⟨a1, a2, a3, a4⟩ := h
  rw [append_c a1 hl, b1_some]
  refine hc _ ⟨by rw [rd_Is, List.length_append]; rfl, fun k p hp => ?_, fun k s hs => by rw [rd_Ii (by omega), rd_Ii (by omega), rd_Ii (by omega)]; exact a3 k s hs, fun j hj => by rw [rd_Ii (by omega), rd_Ii (by omega), rd_Ii (by omega)]; exact a4.1 j hj, fun k hk => by rw [rd_Ik hk, rd_Ii (by omega), rd_Ii (by omega)]; exact a4.2.1 k hk, a4.2.2⟩
  rcases gl_app hp with ⟨h1, h2⟩ | ⟨h1, h2⟩
  · rw [rd_Ii (by omega), rd_Ii (by omega), rd_Ik (by omega), rd_Ii (by omega), rd_Ik (by omega), rd_Ii (by omega)]
    exact a2 k p h2
  · rw [h1, h2, rd_Ii (by omega), rd_Ii (by omega), rd_Is, rd_Ii (by omega), rd_Is]
    exact ⟨rfl, rfl⟩
theorem UQ_beg {q : Nat} {C : List (Int32 × Int32)} {S : List Nat} {μ0 μ : Mem} {k : Nat} {α : Type} {F : Mem → Option α} {Q : α → Prop} (h : UQ q C S μ0 μ) (hk : k < 4) (hS : k = S.length) (hc : ∀ μ', UQ q C (S ++ [C.length]) μ0 μ' → Wo (F μ') Q) : Wo (b1 (fX1_begin q (nI k) μ) F) Q := by
  obtain ⟨a1, a2, a3, a4⟩ := h
  unfold fX1_begin
  rw [if_neg (nI_pos (by omega)), if_neg (by simp (disch := omega) only [L_add, L_add2, L_mul, L_mul2, L_sub, nI_add, pk_mul, pk_sub, L_le, L_le2, L_lt, L_lt2, L_eq, L_eq2, nI_leI, nI_ltI, nI_eq, nI_clamp, ix_nI, ix_lit, L_cl]; omega), ix_nI (by omega) (by omega), gd_true, bd_eq, nI_clamp (by omega), a1, b1_some]
  refine hc _ ⟨by rw [rd_Ii (by omega)]; exact a1, fun i p hp => by rw [rd_Ii (by omega), rd_Ii (by omega)]; exact a2 i p hp, fun i s hs => ?_, fun j hj => by rw [rd_Ii (by omega)]; exact a4.1 j hj, fun i hi => by rw [rd_Ii (by omega)]; exact a4.2.1 i hi, a4.2.2⟩
  rcases gl_app hs with ⟨h1, h2⟩ | ⟨h1, h2⟩
  · rw [rd_Ik (by omega)]; exact a3 i s h2
  · rw [h1, h2, hS, rd_Is]
theorem untold_q {q : Nat} {μ : Mem} : Wo (fX1_setUntold q μ) (UQ q utC [0, 4, 6, 8] μ) := by
  unfold fX1_setUntold
  rw [bd_eq]
  have h0 : UQ q [] [] μ (upI μ q 4 0) := ⟨rd_Is, fun k p hp => by simp at hp, fun k s hs => by simp at hs, fun j hj => rd_Ii (by omega), fun k hk => rd_Ik hk, rfl⟩
  refine UQ_beg (k := 0) h0 (by omega) rfl (fun μ1 h1 => ?_)
  refine UQ_app h1 (by decide) (fun μ2 h2 => ?_)
  refine UQ_app h2 (by decide) (fun μ3 h3 => ?_)
  refine UQ_app h3 (by decide) (fun μ4 h4 => ?_)
  refine UQ_app h4 (by decide) (fun μ5 h5 => ?_)
  refine UQ_beg (k := 1) h5 (by omega) rfl (fun μ6 h6 => ?_)
  refine UQ_app h6 (by decide) (fun μ7 h7 => ?_)
  refine UQ_app h7 (by decide) (fun μ8 h8 => ?_)
  refine UQ_beg (k := 2) h8 (by omega) rfl (fun μ9 h9 => ?_)
  refine UQ_app h9 (by decide) (fun μ10 h10 => ?_)
  refine UQ_app h10 (by decide) (fun μ11 h11 => ?_)
  refine UQ_beg (k := 3) h11 (by omega) rfl (fun μ12 h12 => ?_)
  refine UQ_app h12 (by decide) (fun μ13 h13 => ?_)
  refine UQ_app h13 (by decide) (fun μ14 h14 => ?_)
  rw [Wo_some]
  exact h14
theorem UQ_lay {q : Nat} {μ0 μ : Mem} (h : UQ q utC [0, 4, 6, 8] μ0 μ) : μ.1 q 4 = nI 10 ∧ ∀ k, k < 4 → (∃ i, μ.1 (q + 3) k = nI i ∧ LayC μ q 10 [] i (dcL k)) ∧ EXL [] (dcL k) := by
  obtain ⟨a1, a2, a3, a4⟩ := h
  refine ⟨a1, fun k hk => ⟨?_, dcL_EX k⟩⟩
  have c : ∀ k p, utC[k]? = some p → μ.1 (q + 1) k = p.1 ∧ μ.1 (q + 2) k = p.2 := a2
  rcases (show k = 0 ∨ k = 1 ∨ k = 2 ∨ k = 3 by omega) with rfl | rfl | rfl | rfl
  · refine ⟨0, a3 0 0 rfl, ?_, (c 3 _ rfl).1, by decide⟩
    have s1 : SegC μ q 0 [(1, nI 1)] := SegC_1 (c 0 _ rfl).1 (fun h => by cases h)
    have s2 : SegC μ q 1 [(0, 1)] := SegC_1 (c 1 _ rfl).1 (fun _ => (c 1 _ rfl).2)
    have s3 : SegC μ q 2 [(2, 0)] := SegC_1 (c 2 _ rfl).1 (fun h => by cases h)
    exact SegC_app (c1 := [(1, nI 1)]) s1 (SegC_app (c1 := [(0, 1)]) s2 s3)
  · exact ⟨4, a3 1 4 rfl, SegC_1 (c 4 _ rfl).1 (fun _ => (c 4 _ rfl).2), (c 5 _ rfl).1, by decide⟩
  · exact ⟨6, a3 2 6 rfl, SegC_1 (c 6 _ rfl).1 (fun _ => (c 6 _ rfl).2), (c 7 _ rfl).1, by decide⟩
  · exact ⟨8, a3 3 8 rfl, SegC_1 (c 8 _ rfl).1 (fun _ => (c 8 _ rfl).2), (c 9 _ rfl).1, by decide⟩
