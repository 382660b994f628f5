/-- where the model's code of a law lies: within side L -/
def InM (L e l : Nat) : Prop := 420 * L ≤ e ∧ e + l ≤ 420 * L + 420
def LayM (ν : Mem) (L : Nat) : Bs → Nat → Cd → Prop
  | [], b, cf => (130 * L ≤ b ∧ b < 130 * L + 130) ∧ ν.1 21 b = 0 ∧ ∃ e, InM L e cf.length ∧ ν.1 24 b = nI e ∧ ν.1 25 b = nI (e + cf.length) ∧ SegM ν e cf
  | (c1, c2, c3) :: bs, b, cf => (130 * L ≤ b ∧ b < 130 * L + 130) ∧ ν.1 21 b = 1 ∧ (∃ e, InM L e (c1.length + c2.length + c3.length) ∧ ν.1 22 b = nI e ∧ ν.1 23 b = nI (e + c1.length) ∧ ν.1 24 b = nI (e + c1.length + c2.length) ∧ ν.1 25 b = nI (e + c1.length + c2.length + c3.length) ∧ SegM ν e c1 ∧ SegM ν (e + c1.length) c2 ∧ SegM ν (e + c1.length + c2.length) c3) ∧ LayM ν L bs (b + 1) cf
theorem len_of {c : Cd} {k : Nat} {p : Nat × Int32} (h : c[k]? = some p) : k < c.length := by
  rcases Nat.lt_or_ge k c.length with h1 | h1
  · exact h1
  · rw [List.getElem?_eq_none h1] at h; cases h
theorem SegM_in {ν ν' : Mem} {e : Nat} {c : Cd} (h : SegM ν e c) (h1 : ∀ i, e ≤ i → i < e + c.length → ν'.1 26 i = ν.1 26 i) (h2 : ∀ i, e ≤ i → i < e + c.length → ν'.1 27 i = ν.1 27 i) : SegM ν' e c := by
  intro k p hp
  have := len_of hp
  rw [h1 _ (by omega) (by omega), h2 _ (by omega) (by omega)]
  exact h k p hp
theorem LayM_own {ν ν' : Mem} {L : Nat} (hL : L < 2) (h18 : ν.1 0 18 = nI L) (ho : Own ν ν') {bs : Bs} {cf : Cd} : ∀ {b : Nat}, LayM ν L bs b cf → LayM ν' L bs b cf := by
  obtain ⟨o1, o2, o3⟩ := ho L hL h18
  have seg : ∀ e (c : Cd), InM L e c.length → SegM ν e c → SegM ν' e c := fun e c hi hs => SegM_in hs (fun i a b => o3 26 (by omega) (by omega) i (by have := hi.1; omega) (by have := hi.2; omega)) (fun i a b => o3 27 (by omega) (by omega) i (by have := hi.1; omega) (by have := hi.2; omega))
  induction bs with
  | nil =>
    intro b h
    obtain ⟨hb, h1, e, h2, h3, h4, h5⟩ := h
    exact ⟨hb, by rw [o2 21 (by omega) (by omega) b hb.1 hb.2]; exact h1, e, h2, by rw [o2 24 (by omega) (by omega) b hb.1 hb.2]; exact h3, by rw [o2 25 (by omega) (by omega) b hb.1 hb.2]; exact h4, seg e cf h2 h5⟩
  | cons p bs ih =>
    intro b h
    obtain ⟨c1, c2, c3⟩ := p
    obtain ⟨hb, h1, ⟨e, h2, h3, h4, h5, h6, h7, h8, h9⟩, h10⟩ := h
    unfold InM at h2
    exact ⟨hb, by rw [o2 21 (by omega) (by omega) b hb.1 hb.2]; exact h1, ⟨e, h2, by rw [o2 22 (by omega) (by omega) b hb.1 hb.2]; exact h3, by rw [o2 23 (by omega) (by omega) b hb.1 hb.2]; exact h4, by rw [o2 24 (by omega) (by omega) b hb.1 hb.2]; exact h5, by rw [o2 25 (by omega) (by omega) b hb.1 hb.2]; exact h6, seg e c1 ⟨by omega, by omega⟩ h7, seg _ c2 ⟨by omega, by omega⟩ h8, seg _ c3 ⟨by omega, by omega⟩ h9⟩, ih h10⟩
def tmV (v : Nat → Int32) (c : Cd) (b0 : Int32) (p : Int32 × Mem) : Prop := match ev1 v c with
  | none => p.1 = 0 ∧ p.2.1 0 46 = 1
  | some x => p.1 = x ∧ p.2.1 0 46 = b0
theorem termOf_m {ν0 : Mem} {v : Nat → Int32} {c : Cd} {i : Nat} (hv : ∀ i, i < 9 → ν0.1 29 i = v i) (hs : SegM ν0 i c) (hE : EX 15 c) (he : i + c.length ≤ 840) : Wo (fX12_termOf (nI i) (nI (i + c.length)) ν0) (fun p => tmV v c (ν0.1 0 46) p ∧ F30 ν0 p.2) := by
  unfold fX12_termOf
  have hrn := EX_rn (v := v) hE []
  refine mrun (lo := 0) (M := 15) (s := []) (d' := 1) (by omega) hv he hs rfl (hE 0 15 (by omega)) (by decide) StC_nil F30_rfl rfl (by unfold FU; omega) ?_ ?_
  · intro e ν' hf h46
    rw [hrn] at e
    unfold tmV
    cases ev : ev1 v c with
    | none => exact ⟨⟨rfl, h46⟩, hf⟩
    | some x => rw [ev] at e; cases e
  · intro s' e hl ν' hf hst h46
    rw [hrn] at e
    unfold tmV
    cases ev : ev1 v c with
    | none => rw [ev] at e; cases e
    | some x =>
      rw [ev] at e
      cases e
      exact ⟨⟨hst 0 x rfl, h46⟩, hf⟩
theorem F30_v {ν ν' : Mem} {v : Nat → Int32} (hv : ∀ i, i < 9 → ν.1 29 i = v i) (h : F30 ν ν') : ∀ i, i < 9 → ν'.1 29 i = v i := fun i hi => by rw [h.1 29 (by omega) (by omega)]; exact hv i hi
theorem SegM_F30 {ν ν' : Mem} {e : Nat} {c : Cd} (h : SegM ν e c) (hf : F30 ν ν') : SegM ν' e c := SegM_in h (fun i _ _ => by rw [hf.1 26 (by omega) (by omega)]) (fun i _ _ => by rw [hf.1 27 (by omega) (by omega)])
theorem tell119_m {ν0 ν : Mem} {v : Nat → Int32} {cf : Cd} {b e L : Nat} (hL : L < 2) (hb : b < 260) (hv : ∀ i, i < 9 → ν0.1 29 i = v i) (hf : F30 ν0 ν) (h46 : ν.1 0 46 = 0) (hI : InM L e cf.length) (h24 : ν0.1 24 b = nI e) (h25 : ν0.1 25 b = nI (e + cf.length)) (hs : SegM ν0 e cf) (hE : EX 15 cf) : Wo (fX12_lawTells_b119 (nI b) ν) (fun p => p.1 = (ev1 v cf).getD 0 ∧ F30 ν0 p.2) := by
  have hI2 := hI.2
  unfold fX12_lawTells_b119
  rw [ix_nI (by omega) (by omega), gd_true, gd_true, nI_clamp (by omega), hf.1 24 (by omega) (by omega), hf.1 25 (by omega) (by omega), h24, h25, Wo_b2]
  refine Wo_mono (termOf_m (v := v) (F30_v hv hf) (SegM_F30 hs hf) hE (by omega)) ?_
  rintro ⟨r, s⟩ ⟨k1, k2⟩
  unfold tmV at k1
  cases ev : ev1 v cf with
  | none =>
    rw [ev] at k1
    dsimp only at k1 ⊢
    rw [k1.2, if_neg n10, Wo_some]
    exact ⟨rfl, F30_tr hf k2⟩
  | some x =>
    rw [ev] at k1
    dsimp only at k1 ⊢
    rw [k1.2, h46, if_pos rfl, Wo_some]
    exact ⟨k1.1, F30_tr hf k2⟩
theorem tell39_m {ν0 : Mem} {v : Nat → Int32} {L y last : Nat} (hL : L < 2) (hy : y < 8) (hv : ∀ i, i < 9 → ν0.1 29 i = v i) (hlast : ν0.1 20 y = nI last) (hl2 : last ≤ 260) {bs : Bs} {cf : Cd} : ∀ {b n : Nat} {ν : Mem}, LayM ν0 L bs b cf → EXL bs cf → F30 ν0 ν → ν.1 0 46 = 0 → b + bs.length + 1 = last → last < n + b → Wo (fX12_lawTells_l39 (fun y22 μ23 => fX12_lawTells_b119 y22 μ23) (nI y) n (nI b) ν) (fun p => p.1 = lvL v bs cf ∧ F30 ν0 p.2) := by
  induction bs with
  | nil =>
    intro b n ν hLay hE hf h46 hb hn
    obtain ⟨n, rfl⟩ : ∃ n', n = n' + 1 := ⟨n - 1, by omega⟩
    obtain ⟨hbb, h1, e, h2, h3, h4, h5⟩ := hLay
    rw [List.length_nil] at hb
    show Wo (fX12_lawTells_s39 _ _ _ _ _) _
    unfold fX12_lawTells_s39
    rw [ix_nI (by omega) (by omega), gd_true, nI_clamp (by omega), hf.1 20 (by omega) (by omega), hlast, if_neg (by rw [nI_leI (by omega) (by omega)]; omega), ix_nI (by omega) (by omega), gd_true, nI_clamp (by omega), hf.1 21 (by omega) (by omega), h1, if_pos rfl]
    exact tell119_m hL (by omega) hv hf h46 h2 h3 h4 h5 hE.2
  | cons p bs ih =>
    intro b n ν hLay hE hf h46 hb hn
    obtain ⟨n, rfl⟩ : ∃ n', n = n' + 1 := ⟨n - 1, by omega⟩
    obtain ⟨c1, c2, c3⟩ := p
    obtain ⟨hbb, h1, ⟨e, h2, h3, h4, h5, h6, h7, h8, h9⟩, h10⟩ := hLay
    have h22 := h2.2
    rw [List.length_cons] at hb
    have hE1 := hE.1 (c1, c2, c3) (List.mem_cons_self ..)
    have hE2 : EXL bs cf := ⟨fun b hb => hE.1 b (List.mem_cons_of_mem _ hb), hE.2⟩
    have elv : lvL v ((c1, c2, c3) :: bs) cf = (match ev1 v c1, ev1 v c2 with | some x, some y => if x < y then (ev1 v c3).getD 0 else lvL v bs cf | _, _ => 0) := rfl
    show Wo (fX12_lawTells_s39 _ _ _ _ _) _
    unfold fX12_lawTells_s39
    rw [ix_nI (by omega) (by omega), gd_true, nI_clamp (by omega), hf.1 20 (by omega) (by omega), hlast, if_neg (by rw [nI_leI (by omega) (by omega)]; omega), ix_nI (by omega) (by omega), gd_true, nI_clamp (by omega), hf.1 21 (by omega) (by omega), h1, if_neg n10, gd_true, gd_true, hf.1 22 (by omega) (by omega), hf.1 23 (by omega) (by omega), h3, h4, Wo_b2]
    refine Wo_mono (termOf_m (v := v) (F30_v hv hf) (SegM_F30 h7 hf) hE1.1 (by omega)) ?_
    rintro ⟨r, s1⟩ ⟨k1, k2⟩
    dsimp only
    have f1 := F30_tr hf k2
    rw [gd_true, gd_true, f1.1 23 (by omega) (by omega), f1.1 24 (by omega) (by omega), h4, h5, Wo_b2]
    refine Wo_mono (termOf_m (v := v) (F30_v hv f1) (SegM_F30 h8 f1) hE1.2.1 (by omega)) ?_
    rintro ⟨r2, s2⟩ ⟨k3, k4⟩
    dsimp only
    have f2 := F30_tr f1 k4
    unfold tmV at k1 k3
    cases ev : ev1 v c1 with
    | none =>
      rw [ev] at k1 elv
      dsimp only at k1
      have hne : ¬ s2.1 0 46 = 0 := by
        cases ev2 : ev1 v c2 with
        | none => rw [ev2] at k3; dsimp only at k3; rw [k3.2]; exact n10
        | some y => rw [ev2] at k3; dsimp only at k3; rw [k3.2, k1.2]; exact n10
      rw [if_neg hne, Wo_some]
      exact ⟨by rw [elv], f2⟩
    | some x =>
      rw [ev] at k1 elv
      dsimp only at k1
      cases ev2 : ev1 v c2 with
      | none =>
        rw [ev2] at k3 elv
        dsimp only at k3
        rw [k3.2, if_neg n10, Wo_some]
        exact ⟨by rw [elv], f2⟩
      | some y =>
        rw [ev2] at k3 elv
        dsimp only at k3 elv
        have z46 : s2.1 0 46 = 0 := by rw [k3.2, k1.2]; exact h46
        rw [z46, if_pos rfl, k1.1, k3.1]
        refine Wo_if (fun hc => ?_) (fun hc => ?_)
        · rw [if_pos hc] at elv
          rw [elv]
          exact tell119_m (L := L) (e := e + c1.length + c2.length) hL (by omega) hv f2 z46 ⟨by have := h2.1; omega, by omega⟩ h5 h6 h9 hE1.2.2
        · rw [if_neg hc] at elv
          rw [elv, nI_1]
          exact ih h10 hE2 f2 z46 (by omega) (by omega)
def dcL (k : Nat) : Cd := if k = 0 then [(1, nI 1), (0, 1), (2, 0)] else if k = 1 then [(0, 5)] else [(0, 1)]
theorem dcL_v (k : Nat) (v : Nat → Int32) : lvL v [] (dcL k) = dfl k v := by
  unfold dcL dfl
  by_cases h0 : k = 0
  · rw [if_pos h0, if_pos h0]; rfl
  · rw [if_neg h0, if_neg h0]
    by_cases h1 : k = 1
    · rw [if_pos h1, if_pos h1]; rfl
    · rw [if_neg h1, if_neg h1]; rfl
theorem dcL_EX (k : Nat) : EXL [] (dcL k) := by
  refine ⟨fun b hb => by simp at hb, ?_⟩
  unfold dcL
  split
  · exact EX_mono (EX_op (m := 1) (c1 := [(1, nI 1)]) (c2 := [(0, 1)]) (EX_mono (EX_var (by omega)) (by omega)) EX_int (by omega) (by omega)) (by omega)
  · split
    · exact EX_mono EX_int (by omega)
    · exact EX_mono EX_int (by omega)
/-- the model's law k of side L -/
def MLaw (ν : Mem) (L k : Nat) (D : Bs × Cd) : Prop := (ν.1 19 (4 * L + k) = ν.1 20 (4 * L + k) ∧ D = ([], dcL k)) ∨ ∃ b, ν.1 19 (4 * L + k) = nI b ∧ ν.1 20 (4 * L + k) = nI (b + D.1.length + 1) ∧ b + D.1.length + 1 ≤ 130 * L + 130 ∧ LayM ν L D.1 b D.2 ∧ EXL D.1 D.2
theorem LawM_of {ν : Mem} {L : Nat} {D : Nat → Bs × Cd} (hL : L < 2) (h18 : ν.1 0 18 = nI L) (h : ∀ k, k < 4 → MLaw ν L k (D k)) : LawM ν (fun k v => lvL v (D k).1 (D k).2) := by
  intro ν' ho e18 k hk v plain hv hp
  obtain ⟨o1, o2, o3⟩ := ho L hL h18
  unfold fX12_lawTells
  rw [e18, h18, L_mul2, nI_add, bd_eq, ix_nI (by omega) (by omega), gd_true, gd_true, nI_clamp (by omega), o1 19 (by omega) (by omega) _ (by omega) (by omega), o1 20 (by omega) (by omega) _ (by omega) (by omega)]
  rcases h k hk with ⟨e1, e2⟩ | ⟨b, e1, e2, e3, e4, e5⟩
  · rw [if_pos e1, Wo_some]
    refine ⟨?_, fun _ _ _ => rfl, fun _ _ => rfl, rfl⟩
    dsimp only
    rw [e2, hp]
    exact (dcL_v k v).symm
  · rw [e1, e2, if_neg (by rw [nI_eq (by omega) (by omega)]; omega), bd_eq, gd_true, bd_eq]
    have e19 : (upI ν' 0 46 0).1 19 (4 * L + k) = nI b := by rw [rd_Ii (by omega), o1 19 (by omega) (by omega) _ (by omega) (by omega)]; exact e1
    have e20 : (upI ν' 0 46 0).1 20 (4 * L + k) = nI (b + (D k).1.length + 1) := by rw [rd_Ii (by omega), o1 20 (by omega) (by omega) _ (by omega) (by omega)]; exact e2
    rw [e19]
    have ho2 : Own ν (upI ν' 0 46 0) := Own_tr ho e18 (Own_all (fun j a b => rd_Ii (by omega)))
    have f0 : F30 ν' (upI ν' 0 46 0) := F30_46 F30_rfl
    refine Wo_mono (tell39_m (L := L) (y := 4 * L + k) (v := v) hL (by omega) (F30_v hv f0) e20 (by omega) (n := FU) (LayM_own hL h18 ho2 e4) e5 F30_rfl rd_Is rfl (by unfold FU; omega)) ?_
    rintro ⟨r, s⟩ ⟨k1, k2⟩
    have f2 := F30_tr f0 k2
    exact ⟨k1, f2.1, f2.2.1, f2.2.2⟩
