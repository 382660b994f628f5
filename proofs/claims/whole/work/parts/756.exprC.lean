def TKc (tk : Nat → Nat) (tv : Nat → Int32) (tn : Nat → Int64) (pl : Nat → Int32) (e : Nat) (μ : Mem) : Prop := ∀ i, i ≤ e → μ.1 6 i = nI (cK (tk i)) ∧ μ.1 8 i = pl i ∧ (tk i = 2 → (μ.2 7 i).toInt32 = tv i) ∧ (tk i = 1 → μ.2 7 i = tn i)
def FXc (μ μ' : Mem) : Prop := (∀ j, j ≠ 3 → j ≠ 11 → j ≠ 12 → j ≠ 13 → μ'.1 j = μ.1 j) ∧ (∀ k, k ≠ 4 → μ'.1 11 k = μ.1 11 k) ∧ μ'.2 = μ.2
theorem FXc_rfl {μ : Mem} : FXc μ μ := ⟨fun _ _ _ _ _ => rfl, fun _ _ => rfl, rfl⟩
theorem FXc_tr {a b c : Mem} (h : FXc a b) (h2 : FXc b c) : FXc a c := ⟨fun j x y z u => (h2.1 j x y z u).trans (h.1 j x y z u), fun k x => (h2.2.1 k x).trans (h.2.1 k x), h2.2.2.trans h.2.2⟩
theorem FXc_2 {μ : Mem} {k : Nat} {v : Int32} : FXc μ (upI μ 3 k v) := ⟨fun j a _ _ _ => rd_Ii a, fun i _ => by rw [rd_Ii (by omega)], rfl⟩
theorem FXc_12 {μ : Mem} {j k : Nat} {v : Int32} (hj : j = 12 ∨ j = 13) : FXc μ (upI μ j k v) := ⟨fun i _ _ _ _ => rd_Ii (by omega), fun i _ => by rw [rd_Ii (by omega)], rfl⟩
theorem FXc_11 {μ : Mem} {v : Int32} : FXc μ (upI μ 11 4 v) := ⟨fun i _ _ _ _ => rd_Ii (by omega), fun i hi => rd_Ik hi, rfl⟩
theorem TKc_fr {tk : Nat → Nat} {tv : Nat → Int32} {tn : Nat → Int64} {pl : Nat → Int32} {e : Nat} {μ μ' : Mem} (h : TKc tk tv tn pl e μ) (h5 : μ'.1 6 = μ.1 6) (h7 : μ'.1 8 = μ.1 8) (h6 : μ'.2 7 = μ.2 7) : TKc tk tv tn pl e μ' := by
  intro i hi
  rw [h5, h7, h6]
  exact h i hi
theorem TKc_FX {tk : Nat → Nat} {tv : Nat → Int32} {tn : Nat → Int64} {pl : Nat → Int32} {e : Nat} {μ μ' : Mem} (h : TKc tk tv tn pl e μ) (hf : FXc μ μ') : TKc tk tv tn pl e μ' := TKc_fr h (hf.1 6 (by omega) (by omega) (by omega) (by omega)) (hf.1 8 (by omega) (by omega) (by omega) (by omega)) (by rw [hf.2.2])
theorem SegC_app {μ : Mem} {q i : Nat} {c1 c2 : Cd} (h1 : SegC μ q i c1) (h2 : SegC μ q (i + c1.length) c2) : SegC μ q i (c1 ++ c2) := by
  intro k p hp
  rcases Nat.lt_or_ge k c1.length with hk | hk
  · rw [List.getElem?_append_left hk] at hp
    exact h1 k p hp
  · rw [List.getElem?_append_right hk] at hp
    have := h2 _ p hp
    rw [show i + c1.length + (k - c1.length) = i + k by omega] at this
    exact this
theorem SegC_keep {μ μ' : Mem} {q i : Nat} {c : Cd} (h : SegC μ q i c) (h1 : ∀ j, j < i + c.length → μ'.1 (q + 1) j = μ.1 (q + 1) j) (h2 : ∀ j, j < i + c.length → μ'.1 (q + 2) j = μ.1 (q + 2) j) : SegC μ' q i c := by
  intro k p hp
  have := len_of hp
  rw [h1 _ (by omega), h2 _ (by omega)]
  exact h k p hp
def OKc (μ : Mem) (sz : Nat) (c : Cd) (t' : Nat) (μ' : Mem) : Prop := μ'.1 3 2 = nI t' ∧ (∀ k, k ≠ 2 → μ'.1 3 k = μ.1 3 k) ∧ μ'.1 11 4 = nI (sz + c.length) ∧ SegC μ' 11 sz c ∧ (∀ i, i < sz → μ'.1 12 i = μ.1 12 i ∧ μ'.1 13 i = μ.1 13 i) ∧ FXc μ μ'
def RCc (pl : Nat → Int32) (μ : Mem) (sz : Nat) (r : Rs) (p : Int32 × Mem) : Prop := match r with
  | .error (k, t') => p.1 = 0 ∧ p.2.1 3 3 = nI k ∧ p.2.1 3 4 = pl t' ∧ FXc μ p.2
  | .ok (c, t') => p.1 = 1 ∧ OKc μ sz c t' p.2
theorem take_ok {tk : Nat → Nat} {tv : Nat → Int32} {tn : Nat → Int64} {pl : Nat → Int32} {e t k : Nat} {μ : Mem} (hT : TE tk e) (hK : TKc tk tv tn pl e μ) (h2 : μ.1 3 2 = nI t) (ht : t ≤ e) (hk : tk t = k) (h4 : t < 400) : fX4_take (nI (cK k)) μ = some (1, upI μ 3 2 (nI (t + 1))) := by
  have h400 := hT.1
  unfold fX4_take
  rw [h2, ix_nI (by omega) (by omega), gd_true, nI_clamp (by omega), (hK t ht).1, hk, if_pos rfl, if_neg (by simp (disch := omega) only [L_add, L_add2, L_mul, L_mul2, L_sub, nI_add, pk_mul, pk_sub, L_le, L_le2, L_lt, L_lt2, L_eq, L_eq2, nI_leI, nI_ltI, nI_eq, nI_clamp, ix_nI, ix_lit, L_cl]; omega), bd_eq, nI_1]
theorem take_b60 {tk : Nat → Nat} {tv : Nat → Int32} {tn : Nat → Int64} {pl : Nat → Int32} {e t : Nat} {μ : Mem} {x : Int32} (hT : TE tk e) (hK : TKc tk tv tn pl e μ) (h2 : μ.1 3 2 = nI t) (ht : t ≤ e) : fX4_take_b60 x μ = some (0, upI (upI μ 3 3 x) 3 4 (pl t)) := by
  have h400 := hT.1
  unfold fX4_take_b60
  rw [bd_eq, rd_Ik (by omega), h2, ix_nI (by omega) (by omega), gd_true, nI_clamp (by omega), rd_Ii (by omega), (hK t ht).2.1, bd_eq]
theorem take_2 {tk : Nat → Nat} {tv : Nat → Int32} {tn : Nat → Int64} {pl : Nat → Int32} {e t k : Nat} {μ : Mem} (hT : TE tk e) (hK : TKc tk tv tn pl e μ) (h2 : μ.1 3 2 = nI t) (ht : t ≤ e) (hk : tk t = k) (h4 : ¬ t < 400) : fX4_take (nI (cK k)) μ = some (0, upI (upI μ 3 3 2) 3 4 (pl t)) := by
  have h400 := hT.1
  unfold fX4_take fX4_take_b38
  rw [take_b60 hT hK h2 ht, take_b60 hT hK h2 ht, h2, ix_nI (by omega) (by omega), gd_true, gd_true, nI_clamp (by omega), (hK t ht).1, hk, if_pos rfl, if_pos (by simp (disch := omega) only [L_add, L_add2, L_mul, L_mul2, L_sub, nI_add, pk_mul, pk_sub, L_le, L_le2, L_lt, L_lt2, L_eq, L_eq2, nI_leI, nI_ltI, nI_eq, nI_clamp, ix_nI, ix_lit, L_cl]; omega), if_pos rfl]
theorem take_1 {tk : Nat → Nat} {tv : Nat → Int32} {tn : Nat → Int64} {pl : Nat → Int32} {e t k : Nat} {μ : Mem} (hT : TE tk e) (hK : TKc tk tv tn pl e μ) (h2 : μ.1 3 2 = nI t) (ht : t ≤ e) (hk41 : k < 41) (hk : ¬ tk t = k) : fX4_take (nI (cK k)) μ = some (0, upI (upI μ 3 3 1) 3 4 (pl t)) := by
  have h400 := hT.1
  unfold fX4_take fX4_take_b38
  have hne : ¬ nI (cK (tk t)) = nI (cK k) := by rw [cK_eq (hT.2.2 t ht) hk41]; exact hk
  rw [take_b60 hT hK h2 ht, take_b60 hT hK h2 ht, h2, ix_nI (by omega) (by omega), gd_true, gd_true, nI_clamp (by omega), (hK t ht).1, if_neg hne, if_neg hne]
theorem refuse_c {tk : Nat → Nat} {tv : Nat → Int32} {tn : Nat → Int64} {pl : Nat → Int32} {e t : Nat} {μ : Mem} {x : Int32} (hT : TE tk e) (hK : TKc tk tv tn pl e μ) (h2 : μ.1 3 2 = nI t) (ht : t ≤ e) : fX4_refuse x μ = some (0, upI (upI μ 3 3 x) 3 4 (pl t)) := by
  have h400 := hT.1
  unfold fX4_refuse
  rw [bd_eq, rd_Ik (by omega), h2, ix_nI (by omega) (by omega), gd_true, nI_clamp (by omega), rd_Ii (by omega), (hK t ht).2.1, bd_eq]
/-- a fault: what it leaves -/
theorem RCc_err {pl : Nat → Int32} {μ0 μ : Mem} {sz t k : Nat} {x : Int32} (hf : FXc μ0 μ) (hx : x = nI k) : RCc pl μ0 sz (.error (k, t)) (0, upI (upI μ 3 3 x) 3 4 (pl t)) :=
  ⟨rfl, by dsimp only; rw [rd_Ik (by omega), rd_Is, hx], rd_Is, FXc_tr hf (FXc_tr FXc_2 FXc_2)⟩
theorem append_c {μ : Mem} {q sz : Nat} {x y : Int32} (h : μ.1 q 4 = nI sz) (hs : sz < 416) : fX1_append q x y μ = some (upI (upI (upI μ (q + 1) sz x) (q + 2) sz y) q 4 (nI (sz + 1))) := by
  unfold fX1_append
  rw [h, if_neg (by simp (disch := omega) only [L_add, L_add2, L_mul, L_mul2, L_sub, nI_add, pk_mul, pk_sub, L_le, L_le2, L_lt, L_lt2, L_eq, L_eq2, nI_leI, nI_ltI, nI_eq, nI_clamp, ix_nI, ix_lit, L_cl]; omega), ix_nI (by omega) (by omega), gd_true, bd_eq, nI_clamp (by omega), rd_Ii (by omega), h, ix_nI (by omega) (by omega), gd_true, bd_eq, nI_clamp (by omega), rd_Ii (by omega), rd_Ii (by omega), h, bd_eq, nI_1]
/-- one more step behind c -/
theorem OKc_app {μ0 μ : Mem} {sz t : Nat} {c : Cd} {p : Nat × Int32} {x y : Int32} (h : OKc μ0 sz c t μ) (hx : x = stpC p) (hy : p.1 = 0 → y = p.2) : OKc μ0 sz (c ++ [p]) t (upI (upI (upI μ 12 (sz + c.length) x) 13 (sz + c.length) y) 11 4 (nI (sz + c.length + 1))) := by
  obtain ⟨a1, a2, a3, a4, a5, a6⟩ := h
  refine ⟨?_, fun k hk => ?_, ?_, ?_, fun i hi => ?_, FXc_tr a6 (FXc_tr (FXc_12 (Or.inl rfl)) (FXc_tr (FXc_12 (Or.inr rfl)) FXc_11))⟩
  · simp (disch := omega) only [rd_Ii]; exact a1
  · simp (disch := omega) only [rd_Ii]; exact a2 k hk
  · rw [rd_Is, List.length_append, List.length_cons, List.length_nil]; rfl
  · refine SegC_app (SegC_keep a4 (fun j hj => ?_) (fun j hj => ?_)) ?_
    · show (upI (upI (upI μ 12 (sz + c.length) x) 13 (sz + c.length) y) 11 4 (nI (sz + c.length + 1))).1 12 j = μ.1 12 j
      rw [rd_Ii (by omega), rd_Ii (by omega), rd_Ik (by omega)]
    · show (upI (upI (upI μ 12 (sz + c.length) x) 13 (sz + c.length) y) 11 4 (nI (sz + c.length + 1))).1 13 j = μ.1 13 j
      rw [rd_Ii (by omega), rd_Ik (by omega), rd_Ii (by omega)]
    · intro k q hq
      have := len_of hq
      rw [List.length_cons, List.length_nil] at this
      have hk0 : k = 0 := by omega
      subst hk0
      cases hq
      rw [Nat.add_zero]
      refine ⟨?_, fun h0 => ?_⟩
      · show (upI (upI (upI μ 12 (sz + c.length) x) 13 (sz + c.length) y) 11 4 (nI (sz + c.length + 1))).1 12 (sz + c.length) = _
        rw [rd_Ii (by omega), rd_Ii (by omega), rd_Is, hx]
      · show (upI (upI (upI μ 12 (sz + c.length) x) 13 (sz + c.length) y) 11 4 (nI (sz + c.length + 1))).1 13 (sz + c.length) = _
        rw [rd_Ii (by omega), rd_Is, hy h0]
  · rw [rd_Ii (by omega), rd_Ii (by omega), rd_Ik (by omega), rd_Ii (by omega), rd_Ik (by omega), rd_Ii (by omega)]
    exact a5 i hi
theorem OKc_nil {μ : Mem} {sz t : Nat} (h2 : μ.1 3 2 = nI t) (h4 : μ.1 11 4 = nI sz) : OKc μ sz [] t μ := ⟨h2, fun _ _ => rfl, h4, fun k p hp => by simp at hp, fun _ _ => ⟨rfl, rfl⟩, FXc_rfl⟩
theorem OKc_at {μ0 μ : Mem} {sz t t' : Nat} {c : Cd} (h : OKc μ0 sz c t μ) : OKc μ0 sz c t' (upI μ 3 2 (nI t')) := by
  obtain ⟨a1, a2, a3, a4, a5, a6⟩ := h
  refine ⟨rd_Is, fun k hk => by rw [rd_Ik hk]; exact a2 k hk, by rw [rd_Ii (by omega)]; exact a3, SegC_fr a4 (rd_Ii (by omega)) (rd_Ii (by omega)), fun i hi => by rw [rd_Ii (by omega), rd_Ii (by omega)]; exact a5 i hi, FXc_tr a6 FXc_2⟩
theorem OKc_join {μ0 μ μ' : Mem} {sz t t' : Nat} {c c2 : Cd} (h : OKc μ0 sz c t μ) (h2 : OKc μ (sz + c.length) c2 t' μ') : OKc μ0 sz (c ++ c2) t' μ' := by
  obtain ⟨a1, a2, a3, a4, a5, a6⟩ := h
  obtain ⟨b1, b2, b3, b4, b5, b6⟩ := h2
  refine ⟨b1, fun k hk => (b2 k hk).trans (a2 k hk), by rw [b3, List.length_append, Nat.add_assoc], SegC_app (SegC_keep a4 (fun j hj => (b5 j hj).1) (fun j hj => (b5 j hj).2)) b4, fun i hi => ⟨((b5 i (by omega)).1).trans (a5 i hi).1, ((b5 i (by omega)).2).trans (a5 i hi).2⟩, FXc_tr a6 b6⟩
/-- what a reader of the class does -/
def SpC (tk : Nat → Nat) (tv : Nat → Int32) (tn : Nat → Int64) (pl : Nat → Int32) (e : Nat) (S : Mem → Option (Int32 × Mem)) (P : Nat → Rs) : Prop := ∀ μ t sz, μ.1 3 2 = nI t → t ≤ e → TKc tk tv tn pl e μ → μ.1 11 4 = nI sz → sz ≤ t + 15 → Wo (S μ) (RCc pl μ sz (P t))
theorem varD : ∀ a : Fin 41, (32 ≤ a.1 → (12 ≤ cK a.1 ∧ cK a.1 ≤ 20 ∧ nI (cK a.1) - 12 = stpC (1, nI (a.1 - 32)))) ∧ (12 ≤ cK a.1 → cK a.1 ≤ 20 → 32 ≤ a.1) := by decide +kernel
theorem pBs_c {tk : Nat → Nat} {tv : Nat → Int32} {tn : Nat → Int64} {pl : Nat → Int32} {e t sz : Nat} {μ : Mem} (hT : TE tk e) (h2 : μ.1 3 2 = nI t) (ht : t ≤ e) (hK : TKc tk tv tn pl e μ) (h4 : μ.1 11 4 = nI sz) (hs : sz ≤ t + 15) : Wo (if nI (cK (tk t)) = 22 then gd (ix (μ.1 3 2) 401) (b1 (fX1_append 11 9 ((μ.2 7 ((μ.1 3 2).toNatClampNeg)).toInt32) μ) (fun μ17 => b2 (fX4_take (nI (cK (tk t))) μ17) (fun r20 μ19 => some (r20 &&& 1, μ19)))) else (if nI (cK (tk t)) < 12 then b2 (fX4_refuse 1 μ) (fun r6 μ5 => some (r6 &&& 1, μ5)) else (if 20 < nI (cK (tk t)) then b2 (fX4_refuse 1 μ) (fun r9 μ8 => some (r9 &&& 1, μ8)) else b1 (fX1_append 11 (nI (cK (tk t)) - 12) 0 μ) (fun μ11 => b2 (fX4_take (nI (cK (tk t))) μ11) (fun r14 μ13 => some (r14 &&& 1, μ13)))))) (RCc pl μ sz (pBs tk tv t)) := by
  have h400 := hT.1
  have hd := hT.2.2 t ht
  have hck := cK_ltD ⟨tk t, hd⟩
  dsimp only at hck
  have hv := varD ⟨tk t, hd⟩
  dsimp only at hv
  have app : ∀ (p : Nat × Int32) (x y : Int32), x = stpC p → (p.1 = 0 → y = p.2) → tk t ≠ 0 → tk t ≠ 3 → Wo (b1 (fX1_append 11 x y μ) (fun μ17 => b2 (fX4_take (nI (cK (tk t))) μ17) (fun r20 μ19 => some (r20 &&& 1, μ19)))) (RCc pl μ sz (if t < 400 then .ok ([p], t + 1) else .error (2, t))) := by
    intro p x y hx hy h0 h3
    rw [append_c h4 (by omega), b1_some]
    have hok := OKc_app (p := p) (x := x) (y := y) (OKc_nil (sz := sz) h2 h4) hx hy
    rw [List.nil_append, List.length_nil, Nat.add_zero] at hok
    have hK1 := TKc_FX hK hok.2.2.2.2.2
    by_cases h40 : t < 400
    · rw [take_ok hT hK1 hok.1 ht rfl h40, b2_some, Wo_some, if_pos h40]
      exact ⟨rfl, OKc_at hok⟩
    · rw [take_2 hT hK1 hok.1 ht rfl h40, b2_some, Wo_some, if_neg h40]
      exact RCc_err hok.2.2.2.2.2 rfl
  have ref : Wo (b2 (fX4_refuse 1 μ) (fun r6 μ5 => some (r6 &&& 1, μ5))) (RCc pl μ sz (.error (1, t))) := by
    rw [refuse_c hT hK h2 ht, b2_some, Wo_some]
    exact RCc_err FXc_rfl rfl
  have e2 : nI (cK (tk t)) = 22 ↔ tk t = 2 := cK_eq (b := 2) hd (by omega)
  unfold pBs
  by_cases c2 : tk t = 2
  · rw [if_pos (e2.mpr c2), if_pos c2, h2, ix_nI (by omega) (by omega), gd_true, nI_clamp (by omega), (hK t ht).2.2.1 c2]
    exact app (0, tv t) _ _ rfl (fun _ => rfl) (by omega) (by omega)
  · rw [if_neg (fun hx => c2 (e2.mp hx)), if_neg c2]
    by_cases cv : 32 ≤ tk t ∧ tk t ≤ 40
    · obtain ⟨v1, v2, v3⟩ := hv.1 cv.1
      rw [if_pos cv, if_neg (by simp (disch := omega) only [L_add, L_add2, L_mul, L_mul2, L_sub, nI_add, pk_mul, pk_sub, L_le, L_le2, L_lt, L_lt2, L_eq, L_eq2, nI_leI, nI_ltI, nI_eq, nI_clamp, ix_nI, ix_lit, L_cl]; omega), if_neg (by simp (disch := omega) only [L_add, L_add2, L_mul, L_mul2, L_sub, nI_add, pk_mul, pk_sub, L_le, L_le2, L_lt, L_lt2, L_eq, L_eq2, nI_leI, nI_ltI, nI_eq, nI_clamp, ix_nI, ix_lit, L_cl]; omega)]
      exact app (1, nI (tk t - 32)) _ _ v3 (fun h => by cases h) (by omega) (by omega)
    · rw [if_neg cv]
      by_cases c12 : cK (tk t) < 12
      · rw [if_pos (by simp (disch := omega) only [L_add, L_add2, L_mul, L_mul2, L_sub, nI_add, pk_mul, pk_sub, L_le, L_le2, L_lt, L_lt2, L_eq, L_eq2, nI_leI, nI_ltI, nI_eq, nI_clamp, ix_nI, ix_lit, L_cl]; omega)]; exact ref
      · rw [if_neg (by simp (disch := omega) only [L_add, L_add2, L_mul, L_mul2, L_sub, nI_add, pk_mul, pk_sub, L_le, L_le2, L_lt, L_lt2, L_eq, L_eq2, nI_leI, nI_ltI, nI_eq, nI_clamp, ix_nI, ix_lit, L_cl]; omega), if_pos (by
          have : ¬ cK (tk t) ≤ 20 := fun hx => cv ⟨hv.2 (by omega) hx, by omega⟩
          simp (disch := omega) only [L_add, L_add2, L_mul, L_mul2, L_sub, nI_add, pk_mul, pk_sub, L_le, L_le2, L_lt, L_lt2, L_eq, L_eq2, nI_leI, nI_ltI, nI_eq, nI_clamp, ix_nI, ix_lit, L_cl]; omega)]
        exact ref
theorem unit_c {tk : Nat → Nat} {tv : Nat → Int32} {tn : Nat → Int64} {pl : Nat → Int32} {e d n : Nat} {go : Int32 → Mem → Option (Int32 × Mem)} (hT : TE tk e) (hn : n + d = 6) (hgo : ∀ d', d = d' + 1 → SpC tk tv tn pl e (go (nI (n + 1))) (pSm tk (pUn tk tv d'))) : SpC tk tv tn pl e (fX4_unit_b go (nI n)) (pUn tk tv d) := by
  intro μ t sz h2 ht hK h4 hs
  have h400 := hT.1
  have hd := hT.2.2 t ht
  unfold fX4_unit_b
  have hb := pBs_c hT h2 ht hK h4 hs
  have e6 : nI (cK (tk t)) = 40 ↔ tk t = 6 := cK_eq (b := 6) hd (by omega)
  rw [h2, ix_nI (by omega) (by omega), gd_true, bd_eq, nI_clamp (by omega), (hK t ht).1]
  rw [h2, ix_nI (by omega) (by omega), nI_clamp (by omega)] at hb
  by_cases c6 : tk t = 6
  · rw [if_pos (e6.mpr c6)]
    cases d with
    | zero =>
      rw [if_neg (by simp (disch := omega) only [L_add, L_add2, L_mul, L_mul2, L_sub, nI_add, pk_mul, pk_sub, L_le, L_le2, L_lt, L_lt2, L_eq, L_eq2, nI_leI, nI_ltI, nI_eq, nI_clamp, ix_nI, ix_lit, L_cl]; omega), refuse_c hT hK h2 ht, b2_some, Wo_some]
      show RCc pl μ sz (if tk t = 6 then .error (2, t) else pBs tk tv t) _
      rw [if_pos c6]
      exact RCc_err FXc_rfl rfl
    | succ d =>
      show Wo _ (RCc pl μ sz (if tk t = 6 then (if t < 400 then pCl tk (pSm tk (pUn tk tv d) (t + 1)) else .error (2, t)) else pBs tk tv t))
      rw [if_pos (by simp (disch := omega) only [L_add, L_add2, L_mul, L_mul2, L_sub, nI_add, pk_mul, pk_sub, L_le, L_le2, L_lt, L_lt2, L_eq, L_eq2, nI_leI, nI_ltI, nI_eq, nI_clamp, ix_nI, ix_lit, L_cl]; omega), if_pos c6, show (40 : Int32) = nI (cK 6) from rfl]
      by_cases h40 : t < 400
      · have hnx := TE_nx hT ht h40 (by omega) (by omega)
        rw [take_ok hT hK h2 ht c6 h40, b2_some, if_neg n10, if_pos h40, nI_1, Wo_b2]
        refine Wo_mono (hgo d rfl (upI μ 3 2 (nI (t + 1))) (t + 1) sz rd_Is hnx (TKc_FX hK FXc_2) (by rw [rd_Ii (by omega)]; exact h4) (by omega)) ?_
        rintro ⟨r, s⟩ hr
        dsimp only
        unfold pCl
        have hps := pSm_ok (tk := tk) (m := 2 * d + 1) (U := pUn tk tv d) hT (fun t ht => pUn_ok hT ht) hnx
        cases es : pSm tk (pUn tk tv d) (t + 1) with
        | error x =>
          obtain ⟨k, t'⟩ := x
          rw [es] at hr
          obtain ⟨r1, r2, r3, r4⟩ := hr
          dsimp only at r1 r2 r3 r4
          rw [r1, if_pos rfl, Wo_some]
          exact ⟨rfl, r2, r3, FXc_tr FXc_2 r4⟩
        | ok q =>
          obtain ⟨c, t1⟩ := q
          rw [es] at hr hps
          obtain ⟨r1, r2⟩ := hr
          dsimp only at r1 r2 ⊢
          have ht1 : t1 ≤ e := hps.2.1
          have hok : OKc μ sz c t1 s := by
            obtain ⟨a1, a2, a3, a4, a5, a6⟩ := r2
            exact ⟨a1, fun k hk => by rw [a2 k hk, rd_Ik hk], a3, a4, fun i hi => by rw [(a5 i hi).1, (a5 i hi).2, rd_Ii (by omega), rd_Ii (by omega)]; exact ⟨rfl, rfl⟩, FXc_tr FXc_2 a6⟩
          have hKs := TKc_FX hK hok.2.2.2.2.2
          rw [r1, if_neg n10, show (41 : Int32) = nI (cK 7) from rfl]
          by_cases h7 : tk t1 = 7
          · rw [if_pos h7]
            by_cases h41 : t1 < 400
            · rw [take_ok hT hKs hok.1 ht1 h7 h41, b2_some, if_neg n10, Wo_some, if_pos h41]
              exact ⟨rfl, OKc_at hok⟩
            · rw [take_2 hT hKs hok.1 ht1 h7 h41, b2_some, if_pos rfl, Wo_some, if_neg h41]
              exact RCc_err hok.2.2.2.2.2 rfl
          · rw [take_1 hT hKs hok.1 ht1 (by omega) h7, b2_some, if_pos rfl, Wo_some, if_neg h7]
            exact RCc_err hok.2.2.2.2.2 rfl
      · rw [take_2 hT hK h2 ht c6 h40, b2_some, if_pos rfl, Wo_some, if_neg h40]
        exact RCc_err FXc_rfl rfl
  · rw [if_neg (fun hx => c6 (e6.mp hx))]
    have e0 : pUn tk tv d t = pBs tk tv t := by
      cases d with
      | zero => show (if tk t = 6 then _ else _) = _; rw [if_neg c6]
      | succ d => show (if tk t = 6 then _ else _) = _; rw [if_neg c6]
    rw [e0]
    exact hb
theorem prodl_c {tk : Nat → Nat} {tv : Nat → Int32} {tn : Nat → Int64} {pl : Nat → Int32} {e m n sz : Nat} {go : Int32 → Mem → Option (Int32 × Mem)} {U : Nat → Rs} (hT : TE tk e) (hU : SpC tk tv tn pl e (fX4_unit_b go (nI n)) U) (hp : ∀ t, t ≤ e → PRs e m t (U t)) {μ0 : Mem} (hK : TKc tk tv tn pl e μ0) {t0 : Nat} (hs : sz ≤ t0 + 15) {f : Nat} : ∀ {t i N : Nat} {c : Cd} {μ : Mem}, t ≤ e → t0 + c.length ≤ t → i ≤ t → 401 ≤ f + t → 401 < N + i → OKc μ0 sz c t μ → Wo (fX4_product_l12 go (nI n) N (nI i) μ) (RCc pl μ0 sz (lpP tk U 10 15 4 5 f t c)) := by
  have h400 := hT.1
  induction f with
  | zero => intro t i N c μ ht _ _ hf _ _; omega
  | succ f ih =>
    intro t i N c μ ht hl hi hf hN hok
    obtain ⟨N, rfl⟩ : ∃ N', N = N' + 1 := ⟨N - 1, by omega⟩
    have hK1 := TKc_FX hK hok.2.2.2.2.2
    have hd := hT.2.2 t ht
    have ek1 : nI (cK (tk t)) = 42 ↔ tk t = 10 := cK_eq (b := 10) hd (by omega)
    have ek2 : nI (cK (tk t)) = 47 ↔ tk t = 15 := cK_eq (b := 15) hd (by omega)
    show Wo (fX4_product_s12 _ _ _ _ _) _
    unfold fX4_product_s12
    rw [if_neg (by simp (disch := omega) only [L_add, L_add2, L_mul, L_mul2, L_sub, nI_add, pk_mul, pk_sub, L_le, L_le2, L_lt, L_lt2, L_eq, L_eq2, nI_leI, nI_ltI, nI_eq, nI_clamp, ix_nI, ix_lit, L_cl]; omega), hok.1, ix_nI (by omega) (by omega), gd_true, bd_eq, nI_clamp (by omega), (hK1 t ht).1]
    show Wo _ (RCc pl μ0 sz (if tk t = 10 ∨ tk t = 15 then (if t < 400 then (match U (t + 1) with | .error x => .error x | .ok (c2, t2) => lpP tk U 10 15 4 5 f t2 (c ++ c2 ++ [(if tk t = 10 then 4 else 5, 0)])) else .error (2, t)) else .ok (c, t)))
    have both : (tk t = 10 ∨ tk t = 15) → Wo (fX4_product_b46 go (fX4_product_l12 go (nI n) N) (nI n) (nI i) (nI (cK (tk t))) μ) (RCc pl μ0 sz (if tk t = 10 ∨ tk t = 15 then (if t < 400 then (match U (t + 1) with | .error x => .error x | .ok (c2, t2) => lpP tk U 10 15 4 5 f t2 (c ++ c2 ++ [(if tk t = 10 then 4 else 5, 0)])) else .error (2, t)) else .ok (c, t))) := by
      intro hor
      unfold fX4_product_b46
      rw [if_pos hor]
      by_cases h4 : t < 400
      · have hnx := TE_nx hT ht h4 (by omega) (by omega)
        rw [take_ok hT hK1 hok.1 ht rfl h4, b2_some, if_neg n10, if_pos h4, Wo_b2]
        have hok1 := OKc_at (t' := t + 1) hok
        have hpu := hp (t + 1) hnx
        refine Wo_mono (hU _ (t + 1) (sz + c.length) hok1.1 hnx (TKc_FX hK hok1.2.2.2.2.2) hok1.2.2.1 (by omega)) ?_
        rintro ⟨r, s⟩ hr
        dsimp only
        cases eu : U (t + 1) with
        | error x =>
          obtain ⟨k, t'⟩ := x
          rw [eu] at hr
          obtain ⟨r1, r2, r3, r4⟩ := hr
          dsimp only at r1 r2 r3 r4
          rw [r1, if_pos rfl, Wo_some]
          exact ⟨rfl, r2, r3, FXc_tr hok1.2.2.2.2.2 r4⟩
        | ok q =>
          obtain ⟨c2, t2⟩ := q
          rw [eu] at hr hpu
          obtain ⟨r1, r2⟩ := hr
          obtain ⟨u1, u2, u3, u4⟩ := hpu
          dsimp only at r1 r2 ⊢
          have hj := OKc_join hok1 r2
          rw [r1, if_neg n10]
          have hlen : (c ++ c2).length = c.length + c2.length := List.length_append
          have fin : ∀ (x : Int32) (o : Nat), x = stpC (o, 0) → o ≠ 0 → o = (if tk t = 10 then 4 else 5) → Wo (b1 (fX1_append 11 x 0 s) (fun μ16 => fX4_product_l12 go (nI n) N (nI i + 1) μ16)) (RCc pl μ0 sz (lpP tk U 10 15 4 5 f t2 (c ++ c2 ++ [(if tk t = 10 then 4 else 5, 0)]))) := by
            intro x o hx ho0 ho
            rw [append_c hj.2.2.1 (by omega), b1_some, nI_1, ← ho]
            exact ih u2 (by rw [List.length_append, List.length_cons, List.length_nil]; omega) (by omega) (by omega) (by omega) (OKc_app (p := (o, 0)) hj hx (fun h => absurd h ho0))
          refine Wo_if (fun hc => ?_) (fun hc => ?_)
          · exact fin _ 4 rfl (by omega) (by rw [if_pos (ek1.mp hc)])
          · exact fin _ 5 rfl (by omega) (by rw [if_neg (fun hx => hc (ek1.mpr hx))])
      · rw [take_2 hT hK1 hok.1 ht rfl h4, b2_some, if_pos rfl, Wo_some, if_neg h4]
        exact RCc_err hok.2.2.2.2.2 rfl
    refine Wo_if (fun h1 => both (Or.inl (ek1.mp h1))) (fun h1 => ?_)
    refine Wo_if (fun h2 => both (Or.inr (ek2.mp h2))) (fun h2 => ?_)
    rw [Wo_some, if_neg (fun hx => hx.elim (fun hy => h1 (ek1.mpr hy)) (fun hy => h2 (ek2.mpr hy)))]
    exact ⟨rfl, hok⟩
theorem suml_c {tk : Nat → Nat} {tv : Nat → Int32} {tn : Nat → Int64} {pl : Nat → Int32} {e m n sz : Nat} {go : Int32 → Mem → Option (Int32 × Mem)} {U : Nat → Rs} (hT : TE tk e) (hU : SpC tk tv tn pl e (fX4_product_b go (nI n)) U) (hp : ∀ t, t ≤ e → PRs e m t (U t)) {μ0 : Mem} (hK : TKc tk tv tn pl e μ0) {t0 : Nat} (hs : sz ≤ t0 + 15) {f : Nat} : ∀ {t i N : Nat} {c : Cd} {μ : Mem}, t ≤ e → t0 + c.length ≤ t → i ≤ t → 401 ≤ f + t → 401 < N + i → OKc μ0 sz c t μ → Wo (fX4_sum_l12 go (nI n) N (nI i) μ) (RCc pl μ0 sz (lpP tk U 8 9 2 3 f t c)) := by
  have h400 := hT.1
  induction f with
  | zero => intro t i N c μ ht _ _ hf _ _; omega
  | succ f ih =>
    intro t i N c μ ht hl hi hf hN hok
    obtain ⟨N, rfl⟩ : ∃ N', N = N' + 1 := ⟨N - 1, by omega⟩
    have hK1 := TKc_FX hK hok.2.2.2.2.2
    have hd := hT.2.2 t ht
    have ek1 : nI (cK (tk t)) = 43 ↔ tk t = 8 := cK_eq (b := 8) hd (by omega)
    have ek2 : nI (cK (tk t)) = 45 ↔ tk t = 9 := cK_eq (b := 9) hd (by omega)
    show Wo (fX4_sum_s12 _ _ _ _ _) _
    unfold fX4_sum_s12
    rw [if_neg (by simp (disch := omega) only [L_add, L_add2, L_mul, L_mul2, L_sub, nI_add, pk_mul, pk_sub, L_le, L_le2, L_lt, L_lt2, L_eq, L_eq2, nI_leI, nI_ltI, nI_eq, nI_clamp, ix_nI, ix_lit, L_cl]; omega), hok.1, ix_nI (by omega) (by omega), gd_true, bd_eq, nI_clamp (by omega), (hK1 t ht).1]
    show Wo _ (RCc pl μ0 sz (if tk t = 8 ∨ tk t = 9 then (if t < 400 then (match U (t + 1) with | .error x => .error x | .ok (c2, t2) => lpP tk U 8 9 2 3 f t2 (c ++ c2 ++ [(if tk t = 8 then 2 else 3, 0)])) else .error (2, t)) else .ok (c, t)))
    have both : (tk t = 8 ∨ tk t = 9) → Wo (fX4_sum_b46 go (fX4_sum_l12 go (nI n) N) (nI n) (nI i) (nI (cK (tk t))) μ) (RCc pl μ0 sz (if tk t = 8 ∨ tk t = 9 then (if t < 400 then (match U (t + 1) with | .error x => .error x | .ok (c2, t2) => lpP tk U 8 9 2 3 f t2 (c ++ c2 ++ [(if tk t = 8 then 2 else 3, 0)])) else .error (2, t)) else .ok (c, t))) := by
      intro hor
      unfold fX4_sum_b46
      rw [if_pos hor]
      by_cases h4 : t < 400
      · have hnx := TE_nx hT ht h4 (by omega) (by omega)
        rw [take_ok hT hK1 hok.1 ht rfl h4, b2_some, if_neg n10, if_pos h4, Wo_b2]
        have hok1 := OKc_at (t' := t + 1) hok
        have hpu := hp (t + 1) hnx
        refine Wo_mono (hU _ (t + 1) (sz + c.length) hok1.1 hnx (TKc_FX hK hok1.2.2.2.2.2) hok1.2.2.1 (by omega)) ?_
        rintro ⟨r, s⟩ hr
        dsimp only
        cases eu : U (t + 1) with
        | error x =>
          obtain ⟨k, t'⟩ := x
          rw [eu] at hr
          obtain ⟨r1, r2, r3, r4⟩ := hr
          dsimp only at r1 r2 r3 r4
          rw [r1, if_pos rfl, Wo_some]
          exact ⟨rfl, r2, r3, FXc_tr hok1.2.2.2.2.2 r4⟩
        | ok q =>
          obtain ⟨c2, t2⟩ := q
          rw [eu] at hr hpu
          obtain ⟨r1, r2⟩ := hr
          obtain ⟨u1, u2, u3, u4⟩ := hpu
          dsimp only at r1 r2 ⊢
          have hj := OKc_join hok1 r2
          rw [r1, if_neg n10]
          have hlen : (c ++ c2).length = c.length + c2.length := List.length_append
          have fin : ∀ (x : Int32) (o : Nat), x = stpC (o, 0) → o ≠ 0 → o = (if tk t = 8 then 2 else 3) → Wo (b1 (fX1_append 11 x 0 s) (fun μ16 => fX4_sum_l12 go (nI n) N (nI i + 1) μ16)) (RCc pl μ0 sz (lpP tk U 8 9 2 3 f t2 (c ++ c2 ++ [(if tk t = 8 then 2 else 3, 0)]))) := by
            intro x o hx ho0 ho
            rw [append_c hj.2.2.1 (by omega), b1_some, nI_1, ← ho]
            exact ih u2 (by rw [List.length_append, List.length_cons, List.length_nil]; omega) (by omega) (by omega) (by omega) (OKc_app (p := (o, 0)) hj hx (fun h => absurd h ho0))
          refine Wo_if (fun hc => ?_) (fun hc => ?_)
          · exact fin _ 2 rfl (by omega) (by rw [if_pos (ek1.mp hc)])
          · exact fin _ 3 rfl (by omega) (by rw [if_neg (fun hx => hc (ek1.mpr hx))])
      · rw [take_2 hT hK1 hok.1 ht rfl h4, b2_some, if_pos rfl, Wo_some, if_neg h4]
        exact RCc_err hok.2.2.2.2.2 rfl
    refine Wo_if (fun h1 => both (Or.inl (ek1.mp h1))) (fun h1 => ?_)
    refine Wo_if (fun h2 => both (Or.inr (ek2.mp h2))) (fun h2 => ?_)
    rw [Wo_some, if_neg (fun hx => hx.elim (fun hy => h1 (ek1.mpr hy)) (fun hy => h2 (ek2.mpr hy)))]
    exact ⟨rfl, hok⟩
theorem product_c {tk : Nat → Nat} {tv : Nat → Int32} {tn : Nat → Int64} {pl : Nat → Int32} {e m n : Nat} {go : Int32 → Mem → Option (Int32 × Mem)} {U : Nat → Rs} (hT : TE tk e) (hU : SpC tk tv tn pl e (fX4_unit_b go (nI n)) U) (hp : ∀ t, t ≤ e → PRs e m t (U t)) : SpC tk tv tn pl e (fX4_product_b go (nI n)) (pPr tk U) := by
  intro μ t sz h2 ht hK h4 hs
  unfold fX4_product_b
  rw [Wo_b2]
  refine Wo_mono (hU μ t sz h2 ht hK h4 hs) ?_
  rintro ⟨r, s⟩ hr
  dsimp only
  unfold pPr
  have hpu := hp t ht
  cases eu : U t with
  | error x =>
    obtain ⟨k, t'⟩ := x
    rw [eu] at hr
    obtain ⟨r1, r2⟩ := hr
    dsimp only at r1 r2
    rw [r1, if_pos rfl, Wo_some]
    exact ⟨rfl, r2⟩
  | ok q =>
    obtain ⟨c, t1⟩ := q
    rw [eu] at hr hpu
    obtain ⟨r1, r2⟩ := hr
    obtain ⟨u1, u2, u3, u4⟩ := hpu
    dsimp only at r1 r2 ⊢
    rw [r1, if_neg n10]
    exact prodl_c hT hU hp hK hs (N := FU) (i := 0) u2 (by omega) (by omega) (by omega) (by unfold FU; omega) r2
theorem sum_b_c {tk : Nat → Nat} {tv : Nat → Int32} {tn : Nat → Int64} {pl : Nat → Int32} {e m n : Nat} {go : Int32 → Mem → Option (Int32 × Mem)} {U : Nat → Rs} (hT : TE tk e) (hU : SpC tk tv tn pl e (fX4_unit_b go (nI n)) U) (hp : ∀ t, t ≤ e → PRs e m t (U t)) : SpC tk tv tn pl e (fX4_sum_b go (nI n)) (pSm tk U) := by
  intro μ t sz h2 ht hK h4 hs
  have hP := product_c hT hU hp
  unfold fX4_sum_b
  rw [Wo_b2]
  refine Wo_mono (hP μ t sz h2 ht hK h4 hs) ?_
  rintro ⟨r, s⟩ hr
  dsimp only
  unfold pSm
  have hpu := pPr_ok hT hp ht
  cases eu : pPr tk U t with
  | error x =>
    obtain ⟨k, t'⟩ := x
    rw [eu] at hr
    obtain ⟨r1, r2⟩ := hr
    dsimp only at r1 r2
    rw [r1, if_pos rfl, Wo_some]
    exact ⟨rfl, r2⟩
  | ok q =>
    obtain ⟨c, t1⟩ := q
    rw [eu] at hr hpu
    obtain ⟨r1, r2⟩ := hr
    obtain ⟨u1, u2, u3, u4⟩ := hpu
    dsimp only at r1 r2 ⊢
    rw [r1, if_neg n10]
    exact suml_c hT hP (fun t ht => pPr_ok hT hp ht) hK hs (N := FU) (i := 0) u2 (by omega) (by omega) (by omega) (by unfold FU; omega) r2
theorem sum_c {tk : Nat → Nat} {tv : Nat → Int32} {tn : Nat → Int64} {pl : Nat → Int32} {e : Nat} (hT : TE tk e) {d : Nat} : ∀ {n f : Nat}, n + d = 6 → d < f → SpC tk tv tn pl e (fX4_sum f (nI n)) (pSm tk (pUn tk tv d)) := by
  induction d with
  | zero =>
    intro n f hn hf
    obtain ⟨f, rfl⟩ : ∃ f', f = f' + 1 := ⟨f - 1, by omega⟩
    exact sum_b_c (m := 1) (n := n) (go := fX4_sum f) hT (unit_c hT hn (fun d' h => by omega)) (fun t ht => pUn_ok (d := 0) hT ht)
  | succ d ih =>
    intro n f hn hf
    obtain ⟨f, rfl⟩ : ∃ f', f = f' + 1 := ⟨f - 1, by omega⟩
    refine sum_b_c (m := 2 * (d + 1) + 1) (n := n) (go := fX4_sum f) hT (unit_c hT hn (fun d' h => ?_)) (fun t ht => pUn_ok hT ht)
    cases h
    exact ih (by omega) (by omega)
theorem expr_c {tk : Nat → Nat} {tv : Nat → Int32} {tn : Nat → Int64} {pl : Nat → Int32} {e : Nat} (hT : TE tk e) : SpC tk tv tn pl e (fX4_sum 8 0) (pE tk tv) := sum_c (n := 0) hT (by omega) (by omega)
