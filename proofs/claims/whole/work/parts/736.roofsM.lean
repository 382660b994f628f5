/-- the best way: fewest roofs, of alike ones the first -/
def MBw (w : Kw) (few W : Nat) : Prop := W < 6 ^ kn w ∧ nb w W = few ∧ few < 7 ∧ (∀ v, v < 6 ^ kn w → few ≤ nb w v) ∧ ∀ v, v < W → few < nb w v
theorem MBw_eq {w : Kw} {f W f' W' : Nat} (h : MBw w f W) (h' : MBw w f' W') : f = f' ∧ W = W' := by
  obtain ⟨a1, a2, a3, a4, a5⟩ := h
  obtain ⟨b1, b2, b3, b4, b5⟩ := h'
  have e : f = f' := by
    have := a4 W' b1
    have := b4 W a1
    omega
  refine ⟨e, ?_⟩
  rcases Nat.lt_trichotomy W W' with hx | hx | hx
  · have := b5 W hx; omega
  · exact hx
  · have := a5 W' hx; omega
/-- what a search answers -/
def RRw (w : Kw) (c : Nat → Int32) (r : Int32) : Prop := (r = -2 ∧ ∀ v, v < 6 ^ kn w → nb w v = 7) ∨ ∃ few W, MBw w few W ∧ r = nI few ∧ ∀ h, h < kn w → c h = nI (dg (kn w) W h)
theorem zero45_c {w : Kw} {μ : Mem} {K : Mem → Option (Int32 × Mem)} {Q : Int32 × Mem → Prop} (hk : ∀ s, Fz μ s → (∀ k, k < 6 → s.1 182 k = 0) → Wo (K s) Q) : Wo (fX5_search_l45 K 24 17 FU 0 μ) Q := by
  refine lp0 (fun n' x s => fX5_search_l45 K 24 17 n' x s) 6 (by omega) (fun i s => Fz μ s ∧ ∀ k, k < i → s.1 182 k = 0) _ μ ⟨Fz_rfl, fun k hk => by omega⟩ ?_ ?_
  · rintro n' i s hi ⟨i1, i2⟩ hrec
    show Wo (fX5_search_s45 _ _ _ _ _ _) _
    unfold fX5_search_s45
    rw [if_neg (by simp (disch := omega) only [L_add, L_add2, L_mul, L_mul2, L_sub, nI_add, pk_mul, pk_sub, L_le, L_le2, L_lt, L_lt2, L_eq, L_eq2, nI_leI, nI_ltI, nI_eq, nI_clamp, ix_nI, ix_lit, L_cl]; omega), ix_nI (by omega) (by omega), gd_true, bd_eq, nI_clamp (by omega), nI_1]
    refine hrec _ ⟨Fz_tr i1 (Fz_up (by omega)), fun k hk => ?_⟩
    by_cases he : k = i
    · subst he; rw [rd_Is]
    · rw [rd_Ik he]; exact i2 k (by omega)
  · rintro n' s ⟨i1, i2⟩
    show Wo (fX5_search_s45 _ _ _ _ _ _) _
    unfold fX5_search_s45
    rw [if_pos (by decide)]
    exact hk s i1 i2
theorem roofs34_c {w : Kw} {μ : Mem} {R : Rw} (hK : KZ w) (hQ : QC w μ) (hS : SR μ 24 (kp w) R) : Wo (fX5_search_l34 24 17 FU 0 μ) (fun p => Fz μ p.2 ∧ RRw w (p.2.1 181) p.1) := by
  have hn6 := hK.1.1
  refine lp0 (fun n' x s => fX5_search_l34 24 17 n' x s) (kn w + 1) (by omega) (fun r s => Fz μ s ∧ ∀ r', r' < r → ∀ v, v < 6 ^ kn w → ¬ nb w v ≤ r') _ μ ⟨Fz_rfl, fun r' hr => by omega⟩ ?_ ?_
  · rintro n' r s hr ⟨i1, i2⟩ hrec
    show Wo (fX5_search_s34 _ _ _ _ _) _
    unfold fX5_search_s34
    rw [(QC_KC hQ (Fz_KC i1)).2.1, if_neg (by rw [nI_ltI (by omega) (by omega)]; omega)]
    refine zero45_c (w := w) ?_
    intro s1 j1 j2
    have f1 := Fz_tr i1 j1
    rw [Wo_b2]
    refine Wo_mono (cover_c hK (m := kn w) (f := 8) (h := 0) (n := 0) (r := r) (a := 0) (P := fun _ => 0) (R := R) (by omega) (by omega) (by omega) (by omega) (QC_KC hQ (Fz_KC f1)) (SR_fr hS (f1.1 24 (by omega)) (f1.1 25 (by omega))) (fun v _ => rfl) j2) ?_
    rintro ⟨rr, s2⟩ ⟨k1, k2, k3⟩
    dsimp only at k1 k2 k3 ⊢
    have hdiv : ∀ v, v < 6 ^ kn w → v / 6 ^ kn w = 0 := fun v hv => Nat.div_eq_of_lt hv
    rcases k3 with ⟨l1, W, ⟨w1, w2, w3⟩, l3⟩ | ⟨l1, l2, l3⟩
    · have hW : W < 6 ^ kn w := by
        rcases Nat.lt_or_ge W (6 ^ kn w) with hx | hx
        · exact hx
        · have := Nat.div_pos hx (Nat.pow_pos (by omega)); omega
      rw [l1, if_neg n10, Wo_some]
      refine ⟨Fz_tr f1 k1, Or.inr ⟨r, W, ⟨hW, ?_, by omega, ?_, ?_⟩, rfl, fun h hh => l3 h (by omega) hh⟩⟩
      · by_cases h0 : r = 0
        · omega
        · have := i2 (r - 1) (by omega) W hW; omega
      · intro v hv
        by_cases h0 : r = 0
        · omega
        · have := i2 (r - 1) (by omega) v hv; omega
      · intro v hv
        have := w3 v hv (hdiv v (by omega))
        omega
    · rw [l1, if_pos rfl, nI_1]
      refine hrec s2 ⟨Fz_tr f1 k1, fun r' hr' v hv => ?_⟩
      by_cases he : r' = r
      · subst he; exact l2 v (hdiv v hv)
      · exact i2 r' (by omega) v hv
  · rintro n' s ⟨i1, i2⟩
    show Wo (fX5_search_s34 _ _ _ _ _) _
    unfold fX5_search_s34
    rw [(QC_KC hQ (Fz_KC i1)).2.1, if_pos (by rw [nI_ltI (by omega) (by omega)]; omega), Wo_some]
    refine ⟨i1, Or.inl ⟨rfl, fun v hv => ?_⟩⟩
    have h1 := i2 (kn w) (by omega) v hv
    rcases @nb_rng w v with h2 | h2
    · exact h2
    · omega
theorem roofs_c {w : Kw} {μ : Mem} {R : Rw} (hK : KZ w) (hQ : QC w μ) (hS : SR μ 24 (kp w) R) : Wo (fX5_search 24 17 μ) (fun p => Fz μ p.2 ∧ RRw w (p.2.1 181) p.1) := by
  have hn6 := hK.1.1
  unfold fX5_search
  refine lp0 (σ := Unit) (fun n' x _ => fX5_search_l2 _ 24 17 μ n' x) (kn w) (by omega) (fun _ _ => True) _ () trivial ?_ ?_
  · rintro n' h _ hh _ hrec
    show Wo (fX5_search_s2 _ _ _ _ _ _) _
    unfold fX5_search_s2
    rw [hQ.2.1, if_neg (by rw [nI_leI (by omega) (by omega)]; omega), get_p hS (by omega), b1_some, hQ.2.2.1, nI_1]
    refine Wo_if (fun hc => hrec () trivial) (fun hc => ?_)
    rw [Wo_some]
    exact ⟨Fz_rfl, Or.inl ⟨rfl, fun v _ => nb_none (by omega) (rf_high hK (by omega) hc)⟩⟩
  · rintro n' _ _
    show Wo (fX5_search_s2 _ _ _ _ _ _) _
    unfold fX5_search_s2
    rw [hQ.2.1, if_pos (by rw [nI_leI (by omega) (by omega)]; omega)]
    exact roofs34_c hK hQ hS
def FvM (ν s : Mem) : Prop := (∀ j, ¬ (40 ≤ j ∧ j ≤ 42) → s.1 j = ν.1 j) ∧ s.2 = ν.2
theorem FvM_rfl {ν : Mem} : FvM ν ν := ⟨fun _ _ => rfl, rfl⟩
theorem FvM_tr {a b c : Mem} (h : FvM a b) (h2 : FvM b c) : FvM a c := ⟨fun j x => (h2.1 j x).trans (h.1 j x), h2.2.trans h.2⟩
theorem FvM_up {ν : Mem} {j k : Nat} {v : Int32} (h : 40 ≤ j ∧ j ≤ 42) : FvM ν (upI ν j k v) := ⟨fun i _ => rd_Ii (by omega), rfl⟩
theorem FvM_Fc {ν s : Mem} (h : FvM ν s) : Fc ν s := ⟨fun j a b c d => h.1 j (by omega), fun k _ _ _ => by rw [h.1 0 (by omega)], h.2⟩
theorem by9_m {w : Kw} {ν : Mem} {way : Nat} {K : Mem → Option (Int32 × Mem)} {Q : Int32 × Mem → Prop} (hn6 : kn w ≤ 6) (hw : way < 46656) (hk : ∀ s, FvM ν s → s.1 41 = ν.1 41 → (∀ h, h < kn w → s.1 40 h = nI (dg (kn w) way h) ∧ s.1 42 h = 0) → Wo (K s) Q) : Wo (fX12_roofsBy_l9 K FU (nI way) (nI (kn w) - 1) ν) Q := by
  refine lpD (σ := Int32 × Mem) (fun n' x s => fX12_roofsBy_l9 K n' s.1 x s.2) (fun m s => m ≤ kn w ∧ s.1 = nI (way / 6 ^ (kn w - m)) ∧ FvM ν s.2 ∧ s.2.1 41 = ν.1 41 ∧ ∀ h, m ≤ h → h < kn w → s.2.1 40 h = nI (dg (kn w) way h) ∧ s.2.1 42 h = 0) _ ?_ ?_ FU (kn w) (nI way, ν) (by unfold FU; omega) ⟨Nat.le_refl _, by rw [Nat.sub_self, Nat.pow_zero, Nat.div_one], FvM_rfl, rfl, fun h a b => by omega⟩
  · rintro n' m ⟨x, s⟩ ⟨i0, i1, i2, i3, i4⟩ hrec
    dsimp only at i0 i1 i2 i3 i4 hrec ⊢
    subst i1
    show Wo (fX12_roofsBy_s9 _ _ _ _ _) _
    unfold fX12_roofsBy_s9
    have hq : way / 6 ^ (kn w - (m + 1)) < 46656 := Nat.lt_of_le_of_lt (Nat.div_le_self _ _) hw
    have e6 : (6 : Int32) = nI 6 := rfl
    rw [if_neg (nI_pos (by omega)), ix_nI (by omega) (by omega), gd_true, bd_eq, gd_true, bd_eq, bd_eq, nI_clamp (by omega), e6, pk_rem (by omega) (by omega) (by omega), pk_div (by omega) (by omega) (by omega), m1_sub]
    refine hrec (nI (way / 6 ^ (kn w - (m + 1)) / 6), upI (upI s 40 m (nI (way / 6 ^ (kn w - (m + 1)) % 6))) 42 m 0) ⟨by omega, ?_, FvM_tr i2 (FvM_tr (FvM_up (by omega)) (FvM_up (by omega))), by dsimp only; rw [rd_Ii (by omega), rd_Ii (by omega)]; exact i3, fun h h1 h2 => ?_⟩
    · dsimp only
      rw [Nat.div_div_eq_div_mul, ← Nat.pow_succ, show (kn w - (m + 1)).succ = kn w - m by omega]
    · dsimp only
      by_cases he : h = m
      · subst he
        rw [rd_Is, rd_Ii (by omega), rd_Is]
        unfold dg
        rw [show kn w - 1 - h = kn w - (h + 1) by omega]
        exact ⟨rfl, rfl⟩
      · rw [rd_Ik he, rd_Ii (by omega), rd_Ik he, rd_Ii (by omega)]
        exact i4 h (by omega) h2
  · rintro n' ⟨x, s⟩ ⟨i0, i1, i2, i3, i4⟩
    dsimp only at i0 i1 i2 i3 i4 ⊢
    show Wo (fX12_roofsBy_s9 _ _ _ _ _) _
    unfold fX12_roofsBy_s9
    rw [if_pos (by decide)]
    exact hk s i2 i3 (fun h hh => i4 h (by omega) hh)
theorem by46_m {w : Kw} {L : Nat} {ν : Mem} {d : Nat → Nat} (hK : KZ w) (hQ : QL w L ν) (hd : ∀ h, h < kn w → d h < 6 ∧ ν.1 40 h = nI (d h) ∧ ν.1 42 h = 0) : Wo (fX12_roofsBy_l46 FU 0 0 ν) (fun p => (p.1 = nI (match rf w d (kn w) with | none => 7 | some s => s.1)) ∧ FvM ν p.2 ∧ p.2.1 40 = ν.1 40 ∧ p.2.1 41 = ν.1 41) := by
  have hn6 := hQ.2.1
  have hL := hQ.1
  refine lp0 (σ := Int32 × Mem) (fun n' x s => fX12_roofsBy_l46 n' s.1 x s.2) (kn w) (by omega) (fun h s => ∃ n P, rf w d h = some (n, P) ∧ s.1 = nI n ∧ (∀ k, k < kn w → s.2.1 42 k = P k) ∧ FvM ν s.2 ∧ s.2.1 40 = ν.1 40 ∧ s.2.1 41 = ν.1 41) _ (0, ν) ⟨0, fun _ => 0, rfl, rfl, fun k hk => (hd k hk).2.2, FvM_rfl, rfl, rfl⟩ ?_ ?_
  · rintro n' h ⟨x, s⟩ hh ⟨n, P, e, i1, i2, i3, i4, i5⟩ hrec
    dsimp only at i1 i2 i3 i4 i5 ⊢
    subst i1
    have hnh : n ≤ h := rf_le e
    have hdh := (hd h hh).1
    have es := rf_s e
    have hQ1 := QL_Fc hQ (FvM_Fc i3)
    show Wo (fX12_roofsBy_s46 _ _ _ _) _
    unfold fX12_roofsBy_s46
    rw [many_m hQ1, b1_some, if_neg (by rw [nI_leI (by omega) (by omega)]; omega), ix_nI (by omega) (by omega), gd_true, bd_eq, nI_clamp (by omega), i4, (hd h hh).2.1]
    by_cases hc : d h ≤ n
    · rw [if_pos (by rw [nI_leI (by omega) (by omega)]; exact hc)]
      have fin : ∀ n2, n2 = (if d h = n then n + 1 else n) → Wo (fX12_roofsBy_b82 (fX12_roofsBy_l46 n') (nI n2) (nI h) (nI (d h)) s) (fun p => (p.1 = nI (match rf w d (kn w) with | none => 7 | some s => s.1)) ∧ FvM ν p.2 ∧ p.2.1 40 = ν.1 40 ∧ p.2.1 41 = ν.1 41) := by
        intro n2 hn2
        unfold fX12_roofsBy_b82
        rw [ix_nI (by omega) (by omega), gd_true, panesAt_m hQ1 hh, b1_some, gd_true, bd_eq, gd_true, nI_clamp (by omega), i2 (d h) (by omega), rd_Is, rd_Ii (by omega), rd_Ii (by omega), hQ1.2.2.1, ix_nI (by omega) (by omega), gd_true, nI_clamp (by omega), hQ1.2.2.2.2.2.1, nI_1]
        refine Wo_if (fun hx => ?_) (fun hx => ?_)
        · rw [if_pos ⟨hc, hx⟩, ← hn2] at es
          refine hrec (nI n2, upI s 42 (d h) (P (d h) + kp w h)) ⟨n2, _, es, rfl, fun k hk => ?_, FvM_tr i3 (FvM_up (by omega)), by dsimp only; rw [rd_Ii (by omega)]; exact i4, by dsimp only; rw [rd_Ii (by omega)]; exact i5⟩
          dsimp only
          by_cases he : k = d h
          · subst he; rw [rd_Is, pk_us]
          · rw [rd_Ik he, pk_un he]; exact i2 k hk
        · rw [if_neg (fun hy => hx hy.2)] at es
          rw [Wo_some, rf_none es (by omega)]
          exact ⟨rfl, FvM_tr i3 (FvM_up (by omega)), by dsimp only; rw [rd_Ii (by omega)]; exact i4, by dsimp only; rw [rd_Ii (by omega)]; exact i5⟩
      refine Wo_if (fun hx => ?_) (fun hx => ?_)
      · rw [nI_eq (by omega) (by omega)] at hx
        rw [nI_1 n]
        exact fin (n + 1) (by rw [if_pos hx])
      · rw [nI_eq (by omega) (by omega)] at hx
        exact fin n (by rw [if_neg hx])
    · rw [if_neg (by rw [nI_leI (by omega) (by omega)]; exact hc), Wo_some]
      rw [if_neg (fun hy => hc hy.1)] at es
      rw [rf_none es (by omega)]
      exact ⟨rfl, i3, i4, i5⟩
  · rintro n' ⟨x, s⟩ ⟨n, P, e, i1, i2, i3, i4, i5⟩
    dsimp only at i1 i2 i3 i4 i5 ⊢
    show Wo (fX12_roofsBy_s46 _ _ _ _) _
    unfold fX12_roofsBy_s46
    rw [many_m (QL_Fc hQ (FvM_Fc i3)), b1_some, if_pos (by rw [nI_leI (by omega) (by omega)]; omega), Wo_some, e]
    exact ⟨i1, i3, i4, i5⟩
theorem roofsBy_m {w : Kw} {L : Nat} {ν : Mem} {way : Nat} (hK : KZ w) (hQ : QL w L ν) (hw : way < 46656) : Wo (fX12_roofsBy (nI way) ν) (fun p => p.1 = nI (nb w way) ∧ FvM ν p.2 ∧ p.2.1 41 = ν.1 41 ∧ ∀ h, h < kn w → p.2.1 40 h = nI (dg (kn w) way h)) := by
  have hn6 := hQ.2.1
  unfold fX12_roofsBy
  rw [many_m hQ, b1_some, bd_eq]
  refine by9_m hn6 hw ?_
  intro s k1 k2 k3
  refine Wo_mono (by46_m (d := dg (kn w) way) hK (QL_Fc hQ (FvM_Fc k1)) (fun h hh => ⟨Nat.mod_lt _ (by omega), (k3 h hh).1, (k3 h hh).2⟩)) ?_
  rintro ⟨r, s1⟩ ⟨j1, j2, j3, j4⟩
  dsimp only at j1 j2 j3 j4
  exact ⟨j1, FvM_tr k1 j2, j4.trans k2, fun h hh => by dsimp only; rw [j3]; exact (k3 h hh).1⟩
theorem copy73_m {w : Kw} {L : Nat} {ν : Mem} {K : Mem → Option (Int32 × Mem)} {Q : Int32 × Mem → Prop} (hQ : QL w L ν) (hk : ∀ s, FvM ν s → (∀ h, h < kn w → s.1 41 h = ν.1 40 h) → Wo (K s) Q) : Wo (fX12_roofs_l73 K FU 0 ν) Q := by
  have hn6 := hQ.2.1
  refine lp0 (fun n' x s => fX12_roofs_l73 K n' x s) (kn w) (by omega) (fun i s => FvM ν s ∧ s.1 40 = ν.1 40 ∧ ∀ h, h < i → s.1 41 h = ν.1 40 h) _ ν ⟨FvM_rfl, rfl, fun h hh => by omega⟩ ?_ ?_
  · rintro n' i s hi ⟨i1, i2, i3⟩ hrec
    show Wo (fX12_roofs_s73 _ _ _ _) _
    unfold fX12_roofs_s73
    rw [many_m (QL_Fc hQ (FvM_Fc i1)), b1_some, if_neg (by rw [nI_leI (by omega) (by omega)]; omega), ix_nI (by omega) (by omega), gd_true, gd_true, bd_eq, nI_clamp (by omega), nI_1]
    refine hrec _ ⟨FvM_tr i1 (FvM_up (by omega)), by rw [rd_Ii (by omega)]; exact i2, fun h hh => ?_⟩
    by_cases he : h = i
    · subst he; rw [rd_Is, i2]
    · rw [rd_Ik he]; exact i3 h (by omega)
  · rintro n' s ⟨i1, i2, i3⟩
    show Wo (fX12_roofs_s73 _ _ _ _) _
    unfold fX12_roofs_s73
    rw [many_m (QL_Fc hQ (FvM_Fc i1)), b1_some, if_pos (by rw [nI_leI (by omega) (by omega)]; omega)]
    exact hk s i1 i3
theorem ways_m {w : Kw} {L : Nat} {ν : Mem} {K : Int32 → Option (Int32 × Mem)} {Q : Int32 × Mem → Prop} (hQ : QL w L ν) (hk : Wo (K (nI (6 ^ kn w))) Q) : Wo (fX12_roofs_l19 K ν FU 1 0) Q := by
  have hn6 := hQ.2.1
  refine lp0 (fun n' x s => fX12_roofs_l19 K ν n' s x) (kn w) (by omega) (fun i s => s = nI (6 ^ i)) _ 1 rfl ?_ ?_
  · rintro n' i s hi rfl hrec
    show Wo (fX12_roofs_s19 _ _ _ _ _) _
    unfold fX12_roofs_s19
    rw [many_m hQ, b1_some, if_neg (by rw [nI_leI (by omega) (by omega)]; omega), bd_eq, L_mul, nI_1]
    exact hrec _ (by rw [Nat.pow_succ])
  · rintro n' s rfl
    show Wo (fX12_roofs_s19 _ _ _ _ _) _
    unfold fX12_roofs_s19
    rw [many_m hQ, b1_some, if_pos (by rw [nI_leI (by omega) (by omega)]; omega)]
    exact hk
theorem roofs_m {w : Kw} {L : Nat} {ν : Mem} {K : Int32 → Mem → Option (Int32 × Mem)} {Q : Int32 × Mem → Prop} (hK : KZ w) (hQ : QL w L ν) (hk : ∀ s f, FvM ν s → ((f = 7 ∧ ∀ v, v < 6 ^ kn w → nb w v = 7) ∨ ∃ W, MBw w f W ∧ ∀ h, h < kn w → s.1 41 h = nI (dg (kn w) W h)) → Wo (K (nI f) s) Q) : Wo (fX12_roofs_l44 K (nI (6 ^ kn w)) FU 7 0 ν) Q := by
  have hn6 := hQ.2.1
  have hp : 6 ^ kn w ≤ 6 ^ 6 := Nat.pow_le_pow_right (by omega) hn6
  refine lp0 (σ := Int32 × Mem) (fun n' x s => fX12_roofs_l44 K (nI (6 ^ kn w)) n' s.1 x s.2) (6 ^ kn w) (by omega) (fun i s => ∃ f, s.1 = nI f ∧ FvM ν s.2 ∧ ((f = 7 ∧ ∀ v, v < i → nb w v = 7) ∨ ∃ W, W < i ∧ nb w W = f ∧ f < 7 ∧ (∀ v, v < i → f ≤ nb w v) ∧ (∀ v, v < W → f < nb w v) ∧ ∀ h, h < kn w → s.2.1 41 h = nI (dg (kn w) W h))) _ (7, ν) ⟨7, rfl, FvM_rfl, Or.inl ⟨rfl, fun v hv => by omega⟩⟩ ?_ ?_
  · rintro n' i ⟨x, s⟩ hi ⟨f, i1, i2, i3⟩ hrec
    dsimp only at i1 i2 i3 ⊢
    subst i1
    have hf7 : f ≤ 7 := by rcases i3 with ⟨h, _⟩ | ⟨_, _, _, h, _⟩ <;> omega
    have hnb : nb w i ≤ 7 := by rcases @nb_rng w i with h | h <;> omega
    show Wo (fX12_roofs_s44 _ _ _ _ _ _) _
    unfold fX12_roofs_s44
    rw [if_neg (by rw [nI_leI (by omega) (by omega)]; omega), Wo_b2]
    refine Wo_mono (roofsBy_m hK (QL_Fc hQ (FvM_Fc i2)) (by omega)) ?_
    rintro ⟨r, s1⟩ ⟨k1, k2, k3, k4⟩
    dsimp only at k1 k2 k3 k4 ⊢
    rw [k1]
    have f2 := FvM_tr i2 k2
    refine Wo_if (fun hc => ?_) (fun hc => ?_)
    · rw [nI_ltI (by omega) (by omega)] at hc
      refine copy73_m (QL_Fc hQ (FvM_Fc f2)) ?_
      intro s2 j1 j2
      rw [nI_1]
      refine hrec (_, s2) ⟨nb w i, rfl, FvM_tr f2 j1, Or.inr ⟨i, by omega, rfl, by omega, fun v hv => ?_, fun v hv => ?_, fun h hh => by dsimp only; rw [j2 h hh]; exact k4 h hh⟩⟩
      · by_cases he : v = i
        · rw [he]; exact Nat.le_refl _
        · rcases i3 with ⟨a1, a2⟩ | ⟨W, a1, a2, a3, a4, _⟩
          · have := a2 v (by omega); omega
          · have := a4 v (by omega); omega
      · rcases i3 with ⟨a1, a2⟩ | ⟨W, a1, a2, a3, a4, _⟩
        · have := a2 v hv; omega
        · have := a4 v hv; omega
    · rw [nI_ltI (by omega) (by omega)] at hc
      rw [nI_1]
      refine hrec (_, s1) ⟨f, rfl, f2, ?_⟩
      rcases i3 with ⟨a1, a2⟩ | ⟨W, a1, a2, a3, a4, a5, a6⟩
      · refine Or.inl ⟨a1, fun v hv => ?_⟩
        by_cases he : v = i
        · rw [he]; omega
        · exact a2 v (by omega)
      · refine Or.inr ⟨W, by omega, a2, a3, fun v hv => ?_, a5, fun h hh => by dsimp only; rw [k3]; exact a6 h hh⟩
        by_cases he : v = i
        · rw [he]; omega
        · exact a4 v (by omega)
  · rintro n' ⟨x, s⟩ ⟨f, i1, i2, i3⟩
    dsimp only at i1 i2 i3 ⊢
    subst i1
    show Wo (fX12_roofs_s44 _ _ _ _ _ _) _
    unfold fX12_roofs_s44
    rw [if_pos (by rw [nI_leI (by omega) (by omega)]; omega)]
    refine hk s f i2 ?_
    rcases i3 with h | ⟨W, a1, a2, a3, a4, a5, a6⟩
    · exact Or.inl h
    · exact Or.inr ⟨W, ⟨a1, a2, a3, a4, a5⟩, a6⟩
/-- what roofs(i) answers -/
def rfV (w : Kw) (o : Option Nat) (r : Int32) : Prop := (r = -2 ∧ ∀ v, v < 6 ^ kn w → nb w v = 7) ∨ ∃ few W, MBw w few W ∧ r = (match o with | none => nI few | some i => nI (dg (kn w) W i))
theorem rfV_eq {w : Kw} {o : Option Nat} {r r' : Int32} (h : rfV w o r) (h' : rfV w o r') : r = r' := by
  rcases h with ⟨a1, a2⟩ | ⟨f, W, a1, a2⟩
  · rcases h' with ⟨b1, b2⟩ | ⟨f, W, b1, b2⟩
    · rw [a1, b1]
    · exfalso; have h1 := a2 W b1.1; have h2 := b1.2.1; have h3 := b1.2.2.1; omega
  · rcases h' with ⟨b1, b2⟩ | ⟨f', W', b1, b2⟩
    · exfalso; have h1 := b2 W a1.1; have h2 := a1.2.1; have h3 := a1.2.2.1; omega
    · obtain ⟨e1, e2⟩ := MBw_eq a1 b1
      subst e1; subst e2
      rw [a2, b2]
theorem n2_nI {n : Nat} (h : n < 2 ^ 31) : ¬ nI n = -2 := by
  intro hx
  have := nI_pos h
  rw [hx] at this
  exact this (by decide)
theorem n1_nI {n : Nat} (h : n < 2 ^ 31) : ¬ nI n = -1 := by
  intro hx
  have := nI_pos h
  rw [hx] at this
  exact this (by decide)
theorem roofsb_c {w : Kw} {μ : Mem} {R : Rw} {z : Int32} {o : Option Nat} (hK : KZ w) (hQ : QC w μ) (hS : SR μ 24 (kp w) R) (hz : (z = -1 ∧ o = none) ∨ ∃ i, i < kn w ∧ z = nI i ∧ o = some i) : Wo (fX11_roofs_b15 z μ) (fun p => rfV w o p.1 ∧ KC μ p.2) := by
  have hn6 := hQ.1
  unfold fX11_roofs_b15
  rw [Wo_b2]
  refine Wo_mono (roofs_c hK hQ hS) ?_
  rintro ⟨r, s⟩ ⟨k1, k2⟩
  dsimp only at k1 k2 ⊢
  rcases k2 with ⟨a1, a2⟩ | ⟨few, W, a1, a2, a3⟩
  · rw [if_pos a1, Wo_some]
    exact ⟨Or.inl ⟨a1, a2⟩, Fz_KC k1⟩
  · have h7 := a1.2.2.1
    rw [if_neg (by rw [a2]; exact n2_nI (by omega))]
    rcases hz with ⟨rfl, rfl⟩ | ⟨i, hi, rfl, rfl⟩
    · rw [if_pos rfl, Wo_some]
      exact ⟨Or.inr ⟨few, W, a1, a2⟩, Fz_KC k1⟩
    · rw [if_neg (n1_nI (by omega)), ix_nI (by omega) (by omega), gd_true, nI_clamp (by omega), Wo_some]
      exact ⟨Or.inr ⟨few, W, a1, a3 i hi⟩, Fz_KC k1⟩
theorem roofsb_m {w : Kw} {L : Nat} {ν : Mem} {z : Int32} {o : Option Nat} (hK : KZ w) (hQ : QL w L ν) (hz : (z = -1 ∧ o = none) ∨ ∃ i, i < kn w ∧ z = nI i ∧ o = some i) : Wo (fX12_roofs_b15 z ν) (fun p => rfV w o p.1 ∧ Fc ν p.2) := by
  have hn6 := hQ.2.1
  unfold fX12_roofs_b15
  refine ways_m hQ ?_
  refine roofs_m hK hQ ?_
  intro s f k1 k2
  rcases k2 with ⟨a1, a2⟩ | ⟨W, a1, a3⟩
  · rw [a1, if_pos (show nI 7 = 7 from rfl), Wo_some]
    exact ⟨Or.inl ⟨rfl, a2⟩, FvM_Fc k1⟩
  · have h7 := a1.2.2.1
    rw [if_neg (by simp (disch := omega) only [L_add, L_add2, L_mul, L_mul2, L_sub, nI_add, pk_mul, pk_sub, L_le, L_le2, L_lt, L_lt2, L_eq, L_eq2, nI_leI, nI_ltI, nI_eq, nI_clamp, ix_nI, ix_lit, L_cl]; omega)]
    rcases hz with ⟨rfl, rfl⟩ | ⟨i, hi, rfl, rfl⟩
    · rw [if_pos rfl, Wo_some]
      exact ⟨Or.inr ⟨f, W, a1, rfl⟩, FvM_Fc k1⟩
    · rw [if_neg (n1_nI (by omega)), ix_nI (by omega) (by omega), gd_true, nI_clamp (by omega), Wo_some]
      exact ⟨Or.inr ⟨f, W, a1, a3 i hi⟩, FvM_Fc k1⟩
theorem rel_u {μ ν : Mem} {f g : Option (Int32 × Mem)} {P : Int32 → Prop} (h : REL μ ν) (hu : ∀ r r', P r → P r' → r = r') (hf : Wo f (fun p => P p.1 ∧ KC μ p.2)) (hg : Wo g (fun p => P p.1 ∧ Fc ν p.2)) : ∃ (r : Int32) (μ' ν' : Mem), f = some (r, μ') ∧ g = some (r, ν') ∧ REL μ' ν' := by
  obtain ⟨⟨r, μ'⟩, e1, h1, h2⟩ := hf
  obtain ⟨⟨r', ν'⟩, e2, h3, h4⟩ := hg
  have := hu _ _ h1 h3
  dsimp only at this h2 h4
  subst this
  exact ⟨_, μ', ν', e1, e2, REL_keep h h2 h4⟩
theorem r_roofs {μ ν : Mem} (h : REL μ ν) (z0 : Int32) : ∃ (r : Int32) (μ' : Mem) (ν' : Mem), fX11_roofs z0 μ = some (r, μ') ∧ fX12_roofs z0 ν = some (r, ν') ∧ REL μ' ν' := by
  have h' := h
  obtain ⟨w, L, R, a1, a2, a3, a4, a5, a6, a7, a8, a9, a10, a11, a12⟩ := h'
  unfold fX11_roofs fX12_roofs
  by_cases c2 : z0 = -1
  · rw [if_pos c2, if_pos c2]
    exact rel_u (P := rfV w none) h (fun _ _ => rfV_eq) (roofsb_c a1 a2 a5.1 (Or.inl ⟨c2, rfl⟩)) (roofsb_m a1 a3 (Or.inl ⟨c2, rfl⟩))
  · rw [if_neg c2, if_neg c2]
    rcases house_cases a2 a3 z0 with ⟨f1, f2⟩ | ⟨o, ho, rfl, f1, f2⟩
    · rw [f1, f2, b1_some, b1_some, if_pos rfl, if_pos rfl]; exact ⟨_, _, _, rfl, rfl, h⟩
    · rw [f1, f2, b1_some, b1_some, if_neg n10, if_neg n10]
      exact rel_u (P := rfV w (some o)) h (fun _ _ => rfV_eq) (roofsb_c a1 a2 a5.1 (Or.inr ⟨o, ho, rfl, rfl⟩)) (roofsb_m a1 a3 (Or.inr ⟨o, ho, rfl, rfl⟩))
