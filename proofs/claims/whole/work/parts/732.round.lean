theorem goOn_c {w : Kw} (hK : KZ w) {m : Nat} : ∀ {f step x l h : Nat} {μ : Mem}, m < f → step + m = kn w → 1 ≤ step → x < 2 ^ kn w → pcn x = step → l ≤ 198 * step → h < kn w → QC w μ → μ.1 178 (step - 1) = nI h → Wo (fX10_goOn f 17 (nI step) (nI x) (nI l) μ) (fun s => Fy μ s ∧ (∀ k, k < step → s.1 178 k = μ.1 178 k) ∧ Gp w μ step (μ.1 177 2) (nI l + rst w m x h) (pth w m x h) s) := by
  have hn := hK.1.1
  induction m with
  | zero =>
    intro f step x l h μ hf hs hs1 hx hp hl hh hQ h178
    obtain ⟨f, rfl⟩ : ∃ f', f = f' + 1 := ⟨f - 1, by omega⟩
    show Wo (fX10_goOn_b _ _ _ _ _ _) _
    unfold fX10_goOn_b
    rw [hQ.2.1, if_pos (by rw [nI_leI (by omega) (by omega)]; omega)]
    refine Wo_mono (go14_c (P := pth w 0 x h) hn) ?_
    rintro s ⟨k1, k2, k3⟩
    refine ⟨k1, fun k _ => by rw [k2], ?_⟩
    rw [show nI l + rst w 0 x h = nI l by show nI l + 0 = _; grind, show step = kn w by omega]
    exact k3
  | succ m ih =>
    intro f step x l h μ hf hs hs1 hx hp hl hh hQ h178
    obtain ⟨f, rfl⟩ : ∃ f', f = f' + 1 := ⟨f - 1, by omega⟩
    show Wo (fX10_goOn_b _ _ _ _ _ _) _
    unfold fX10_goOn_b
    rw [hQ.2.1, if_neg (by rw [nI_leI (by omega) (by omega)]; omega), if_pos (by simp (disch := omega) only [L_add, L_add2, L_mul, L_mul2, L_sub, nI_add, pk_mul, pk_sub, L_le, L_le2, L_lt, L_lt2, L_eq, L_eq2, nI_leI, nI_ltI, nI_eq, nI_clamp, ix_nI, ix_lit, L_cl]; omega)]
    have hx6 := lt64 hx hn
    refine lp0 (fun n' y s => fX10_goOn_l48 (fX10_goOn f) 17 (nI step) (nI x) (nI l) n' y s) (kn w) (by omega) (fun i s => Fy μ s ∧ (∀ k, k < step → s.1 178 k = μ.1 178 k) ∧ (match alF (fun o => !x.testBit o) (cR w m x h) i with
      | none => s.1 177 2 = μ.1 177 2 ∧ s.1 179 = μ.1 179
      | some b => Gp w μ step (μ.1 177 2) (nI l + cR w m x h b) (fun k => if k = 0 then b else pth w m (x ||| 2 ^ b) b (k - 1)) s)) _ μ ⟨⟨fun _ _ => rfl, rfl⟩, fun _ _ => rfl, rfl, rfl⟩ ?_ ?_
    · rintro n' i s hi ⟨i1, i2, i3⟩ hrec
      show Wo (fX10_goOn_s48 _ _ _ _ _ _ _ _) _
      unfold fX10_goOn_s48
      have hQ1 := QC_KC hQ (Fy_KC i1)
      rw [hQ1.2.1, if_neg (by simp (disch := omega) only [L_add, L_add2, L_mul, L_mul2, L_sub, nI_add, pk_mul, pk_sub, L_le, L_le2, L_lt, L_lt2, L_eq, L_eq2, nI_leI, nI_ltI, nI_eq, nI_clamp, ix_nI, ix_lit, L_cl]; omega), B_bit hx6 (by omega)]
      by_cases hb : x.testBit i = true
      · rw [if_pos hb, if_neg n10, nI_1]
        refine hrec s ⟨i1, i2, ?_⟩
        rw [alF_stepF (by rw [hb]; rfl)]
        exact i3
      · have hbf : x.testBit i = false := by simpa using hb
        rw [if_neg hb, if_pos rfl, ix_nI (by omega) (by omega), gd_true, bd_eq, nI_clamp (by omega), L_sub (by omega), ix_nI (by omega) (by omega), gd_true, nI_clamp (by omega), rd_Ik (by omega), i2 _ (by omega), h178]
        have hQ2 : QC w (upI s 178 step (nI i)) := QC_KC hQ1 (Fy_KC (Fy_up (by omega)))
        obtain ⟨v, hv, ev⟩ := fr_nI hK hh hi
        rw [dist_c hQ2 hh hi, b1_some, Wo_b1, nI_1, nI_1, B_shl (by omega), B_or, ev, nI_add]
        refine Wo_mono (ih (f := f) (step := step + 1) (h := i) (by omega) (by omega) (by omega) (or_lt hx hi) (by rw [pc_or hn hx hi hbf, hp]) (by omega) hi hQ2 (by rw [show step + 1 - 1 = step by omega, rd_Is])) ?_
        rintro s' ⟨j1, j2, j3⟩
        have ec : nI (l + v) + rst w m (x ||| 2 ^ i) i = nI l + cR w m x h i := by unfold cR; rw [ev, ← nI_add]; grind
        rw [ec, rd_Ii (by omega)] at j3
        obtain ⟨b, e, g⟩ := Gp_step (μ := μ) hK hx hh hi hbf (by omega) (by omega) i2 (by omega) i3 j3
        refine hrec s' ⟨Fy_tr i1 (Fy_tr (Fy_up (by omega)) j1), fun k hk => by rw [j2 k (by omega), rd_Ik (by omega)]; exact i2 k hk, ?_⟩
        rw [e]
        exact g
    · rintro n' s ⟨i1, i2, i3⟩
      show Wo (fX10_goOn_s48 _ _ _ _ _ _ _ _) _
      unfold fX10_goOn_s48
      rw [(QC_KC hQ (Fy_KC i1)).2.1, if_pos (by simp (disch := omega) only [L_add, L_add2, L_mul, L_mul2, L_sub, nI_add, pk_mul, pk_sub, L_le, L_le2, L_lt, L_lt2, L_eq, L_eq2, nI_leI, nI_ltI, nI_eq, nI_clamp, ix_nI, ix_lit, L_cl]; omega), Wo_some]
      obtain ⟨e, h1, h2⟩ := @nx_al w m x h hn hx (by omega)
      rw [e] at i3
      refine ⟨i1, i2, ?_⟩
      rw [rst_s hn hx (by omega)]
      have ep : (fun k => if k = 0 then nx w m x h else pth w m (x ||| 2 ^ nx w m x h) (nx w m x h) (k - 1)) = pth w (m + 1) x h := by
        funext k
        cases k with
        | zero => rfl
        | succ k => rfl
      rw [← ep]
      exact i3
theorem tb_pow {h i : Nat} : (2 ^ h).testBit i = decide (h = i) := Nat.testBit_two_pow
theorem pcn_pow {h : Nat} (hh : h < 6) : pcn (2 ^ h) = 1 := by
  match h, hh with
  | 0, _ => decide
  | 1, _ => decide
  | 2, _ => decide
  | 3, _ => decide
  | 4, _ => decide
  | 5, _ => decide
theorem search_c {w : Kw} {μ : Mem} {h : Nat} (hK : KZ w) (hQ : QC w μ) (hh : h < kn w) : Wo (fX10_search 17 (nI h) μ) (fun s => KC μ s ∧ s.1 177 2 = rst w (kn w - 1) (2 ^ h) h ∧ ∀ k, k < kn w → s.1 179 k = if k < 1 then nI h else nI (pth w (kn w - 1) (2 ^ h) h (k - 1))) := by
  have hn := hQ.1
  unfold fX10_search
  have hx : 2 ^ h < 2 ^ kn w := Nat.pow_lt_pow_right (by omega) hh
  have f1 : Fy μ (upI (upI μ 177 2 1000000) 178 0 (nI h)) := Fy_tr (Fy_up (by omega)) (Fy_up (by omega))
  rw [bd_eq, bd_eq, B_shl (by omega), Wo_b1]
  refine Wo_mono (goOn_c (m := kn w - 1) (f := 8) (step := 1) (l := 0) hK (by omega) (by omega) (by omega) hx (pcn_pow (by omega)) (by omega) hh (QC_KC hQ (Fy_KC f1)) (by rw [show 1 - 1 = 0 from rfl, rd_Is])) ?_
  rintro s ⟨k1, k2, k3⟩
  rw [Wo_some]
  refine ⟨Fy_KC (Fy_tr f1 k1), ?_⟩
  obtain ⟨v, hv, ev⟩ := @rst_nI w hK (kn w - 1) (2 ^ h) h hx hh (by rw [pcn_pow (by omega)]; omega)
  have e0 : nI 0 + rst w (kn w - 1) (2 ^ h) h = rst w (kn w - 1) (2 ^ h) h := by rw [nI_0]; grind
  rw [e0] at k3
  rcases k3 with ⟨a1, a2, a3⟩ | ⟨a1, _, _⟩
  · refine ⟨a2, fun k hk => ?_⟩
    rw [a3 k hk]
    by_cases h1 : k < 1
    · rw [if_pos h1, if_pos h1, show k = 0 by omega, rd_Is]
    · rw [if_neg h1, if_neg h1]
  · exfalso
    apply a1
    rw [rd_Ii (by omega), rd_Is, ev]
    simp (disch := omega) only [L_add, L_add2, L_mul, L_mul2, L_sub, nI_add, pk_mul, pk_sub, L_le, L_le2, L_lt, L_lt2, L_eq, L_eq2, nI_leI, nI_ltI, nI_eq, nI_clamp, ix_nI, ix_lit, L_cl]
    omega
/-- the model's table of what is left to go -/
def RT (w : Kw) (ν : Mem) (x : Nat) : Prop := ∀ h, h < kn w → ν.1 39 (6 * x + h) = rst w (kn w - pcn x) x h
theorem restWith_m {w : Kw} {L : Nat} {ν : Mem} {x h o m : Nat} (hK : KZ w) (hQ : QL w L ν) (hx : x < 2 ^ kn w) (hh : h < kn w) (ho : o < kn w) (hb : x.testBit o = false) (hp : pcn x + (m + 1) = kn w) (ht : RT w ν (x ||| 2 ^ o)) : fX12_restWith (nI x) (nI h) (nI o) ν = some (cR w m x h o) := by
  have hn := hQ.2.1
  have h1 := or_lt hx ho
  have h2 := lt64 h1 hn
  unfold fX12_restWith
  rw [farOf_m hK hQ hh ho, b1_some, B_shl (by omega), B_or, L_mul2, nI_add, ix_nI (by omega) (by omega), gd_true, nI_clamp (by omega), ht o ho, pc_or hn hx ho hb, show kn w - (pcn x + 1) = m by omega]
  rfl
theorem or_gt {x o : Nat} (hb : x.testBit o = false) : x < x ||| 2 ^ o := by
  rcases Nat.lt_or_ge x (x ||| 2 ^ o) with h | h
  · exact h
  · have h2 : x ≤ x ||| 2 ^ o := Nat.left_le_or
    have h3 : x ||| 2 ^ o = x := by omega
    have := @tb_or x o o
    rw [h3, hb] at this
    simp at this
theorem maskN {n : Nat} (hn : n < 7) : ((1 : Int32) <<< (nI n &&& 31)) - 1 = nI (2 ^ n - 1) := maskI ⟨n, hn⟩
theorem lt_10k {v : Nat} (h : v ≤ 1188) : nI v < 10000 := by simp (disch := omega) only [L_add, L_add2, L_mul, L_mul2, L_sub, nI_add, pk_mul, pk_sub, L_le, L_le2, L_lt, L_lt2, L_eq, L_eq2, nI_leI, nI_ltI, nI_eq, nI_clamp, ix_nI, ix_lit, L_cl]; omega
theorem rest46_m {w : Kw} {L : Nat} {ν : Mem} {x h : Nat} {K : Int32 → Option Mem} {Q : Mem → Prop} (hK : KZ w) (hQ : QL w L ν) (hx : x < 2 ^ kn w) (hh : h < kn w) (ht : ∀ x', x < x' → x' < 2 ^ kn w → RT w ν x') (k0 : Int32) (hk0 : k0 = if x = 2 ^ kn w - 1 then 0 else 10000) (hk : Wo (K (rst w (kn w - pcn x) x h)) Q) : Wo (fX12_fillsRest_l46 K (nI x) (nI h) ν FU k0 0) Q := by
  have hn := hQ.2.1
  have hx6 := lt64 hx hn
  by_cases hf : pcn x = kn w
  · have hfull := pc_full hn hx hf
    rw [if_pos hfull] at hk0
    subst hk0
    rw [hf, Nat.sub_self] at hk
    have hall : ∀ i, i < kn w → x.testBit i = true := by
      intro i hi
      cases hb : x.testBit i with
      | true => rfl
      | false =>
        have h1 := pc_or hn hx hi hb
        have h2 := pc_le hn (or_lt hx hi)
        omega
    refine lp0 (fun n' y s => fX12_fillsRest_l46 K (nI x) (nI h) ν n' s y) (kn w) (by omega) (fun i s => s = 0) _ 0 rfl ?_ ?_
    · rintro n' i s hi rfl hrec
      show Wo (fX12_fillsRest_s46 _ _ _ _ _ _ _) _
      unfold fX12_fillsRest_s46
      rw [many_m hQ, b1_some, if_neg (by simp (disch := omega) only [L_add, L_add2, L_mul, L_mul2, L_sub, nI_add, pk_mul, pk_sub, L_le, L_le2, L_lt, L_lt2, L_eq, L_eq2, nI_leI, nI_ltI, nI_eq, nI_clamp, ix_nI, ix_lit, L_cl]; omega), B_bit hx6 (by omega), if_pos (hall i hi), if_neg n10, nI_1]
      exact hrec _ rfl
    · rintro n' s rfl
      show Wo (fX12_fillsRest_s46 _ _ _ _ _ _ _) _
      unfold fX12_fillsRest_s46
      rw [many_m hQ, b1_some, if_pos (by simp (disch := omega) only [L_add, L_add2, L_mul, L_mul2, L_sub, nI_add, pk_mul, pk_sub, L_le, L_le2, L_lt, L_lt2, L_eq, L_eq2, nI_leI, nI_ltI, nI_eq, nI_clamp, ix_nI, ix_lit, L_cl]; omega)]
      exact hk
  · have hlt : pcn x < kn w := by have := pc_le hn hx; omega
    rw [if_neg (by intro hx2; have := pc_mask hn; rw [← hx2] at this; omega)] at hk0
    subst hk0
    obtain ⟨m, hm⟩ : ∃ m, kn w - pcn x = m + 1 := ⟨kn w - pcn x - 1, by omega⟩
    rw [hm, rst_s hn hx hlt] at hk
    have ne := nx_al (m := m) (h := h) hn hx hlt
    refine lp0 (fun n' y s => fX12_fillsRest_l46 K (nI x) (nI h) ν n' s y) (kn w) (by omega) (fun i s => s = oV (cR w m x h) 10000 (alF (fun o => !x.testBit o) (cR w m x h) i)) _ 10000 rfl ?_ ?_
    · rintro n' i s hi rfl hrec
      show Wo (fX12_fillsRest_s46 _ _ _ _ _ _ _) _
      unfold fX12_fillsRest_s46
      rw [many_m hQ, b1_some, if_neg (by simp (disch := omega) only [L_add, L_add2, L_mul, L_mul2, L_sub, nI_add, pk_mul, pk_sub, L_le, L_le2, L_lt, L_lt2, L_eq, L_eq2, nI_leI, nI_ltI, nI_eq, nI_clamp, ix_nI, ix_lit, L_cl]; omega), B_bit hx6 (by omega), nI_1]
      by_cases hb : x.testBit i = true
      · rw [if_pos hb, if_neg n10]
        exact hrec _ (by rw [alF_stepF (by rw [hb]; rfl)])
      · have hbf : x.testBit i = false := by simpa using hb
        obtain ⟨v, hv, ev⟩ := cR_nI (m := m) hK hx hh hi hbf (by omega)
        have hz := @alF_stepT (fun o => !x.testBit o) (cR w m x h) 10000 0 i (by rw [hbf]; rfl) (by rw [ev]; exact lt_10k (by omega))
        have hz2 := congrArg Prod.snd hz
        dsimp only at hz2
        rw [if_neg hb, if_pos rfl, restWith_m (m := m) hK hQ hx hh hi hbf (by omega) (ht _ (or_gt hbf) (or_lt hx hi)), b1_some, b1_some]
        refine Wo_if (fun hc => ?_) (fun hc => ?_)
        · rw [if_pos hc] at hz2
          exact hrec _ hz2
        · rw [if_neg hc] at hz2
          exact hrec _ hz2
    · rintro n' s rfl
      show Wo (fX12_fillsRest_s46 _ _ _ _ _ _ _) _
      unfold fX12_fillsRest_s46
      rw [many_m hQ, b1_some, if_pos (by simp (disch := omega) only [L_add, L_add2, L_mul, L_mul2, L_sub, nI_add, pk_mul, pk_sub, L_le, L_le2, L_lt, L_lt2, L_eq, L_eq2, nI_leI, nI_ltI, nI_eq, nI_clamp, ix_nI, ix_lit, L_cl]; omega), ne.1]
      exact hk
theorem rest_m {w : Kw} {L : Nat} {ν : Mem} (hK : KZ w) (hQ : QL w L ν) : Wo (fX12_fillsRest ν) (fun s => (∀ x, x < 2 ^ kn w → RT w s x) ∧ (∀ j, j ≠ 39 → s.1 j = ν.1 j) ∧ s.2 = ν.2) := by
  have hn := hQ.2.1
  have hp : 2 ^ kn w ≤ 2 ^ 6 := Nat.pow_le_pow_right (by omega) hn
  unfold fX12_fillsRest
  rw [many_m hQ, b1_some, bd_eq, B_shl (by omega)]
  refine lpD (fun n' x s => fX12_fillsRest_l9 n' x s) (fun m s => m ≤ 2 ^ kn w ∧ (∀ x, m ≤ x → x < 2 ^ kn w → RT w s x) ∧ (∀ j, j ≠ 39 → s.1 j = ν.1 j) ∧ s.2 = ν.2) _ ?_ ?_ FU (2 ^ kn w) ν (by unfold FU; omega) ⟨Nat.le_refl _, fun x a b => by omega, fun _ _ => rfl, rfl⟩
  · rintro n' x s ⟨i0, i1, i2, i3⟩ hrec
    show Wo (fX12_fillsRest_s9 _ _ _) _
    unfold fX12_fillsRest_s9
    rw [if_neg (nI_pos (by omega))]
    refine lp0 (fun n' y s => fX12_fillsRest_l15 _ (nI x) n' y s) (kn w) (by omega) (fun h t => (∀ x', x < x' → x' < 2 ^ kn w → RT w t x') ∧ (∀ h', h' < h → t.1 39 (6 * x + h') = rst w (kn w - pcn x) x h') ∧ (∀ j, j ≠ 39 → t.1 j = ν.1 j) ∧ t.2 = ν.2) _ s ⟨fun x' a b => i1 x' (by omega) b, fun h' hh => by omega, i2, i3⟩ ?_ ?_
    · rintro n'' h t hh ⟨j1, j2, j3, j4⟩ hrec2
      have hQt : QL w L t := QL_fr hQ (fun j _ _ => j3 j (by omega)) (by rw [j3 0 (by omega)])
      show Wo (fX12_fillsRest_s15 _ _ _ _ _) _
      unfold fX12_fillsRest_s15
      rw [many_m hQt, b1_some, if_neg (by simp (disch := omega) only [L_add, L_add2, L_mul, L_mul2, L_sub, nI_add, pk_mul, pk_sub, L_le, L_le2, L_lt, L_lt2, L_eq, L_eq2, nI_leI, nI_ltI, nI_eq, nI_clamp, ix_nI, ix_lit, L_cl]; omega), b1_some, maskN (by omega)]
      have fin : ∀ k0, k0 = (if x = 2 ^ kn w - 1 then 0 else 10000) → Wo (fX12_fillsRest_b42 (fX12_fillsRest_l15 (fun μ19 => fX12_fillsRest_l9 n' (nI x + (-1)) μ19) (nI x) n'') (fun μ19 => fX12_fillsRest_l9 n' (nI x + (-1)) μ19) (nI x) (nI h) k0 t) (fun s => (∀ x, x < 2 ^ kn w → RT w s x) ∧ (∀ j, j ≠ 39 → s.1 j = ν.1 j) ∧ s.2 = ν.2) := by
        intro k0 hk0
        unfold fX12_fillsRest_b42
        refine rest46_m hK hQt (by omega) hh j1 k0 hk0 ?_
        rw [L_mul2, nI_add, ix_nI (by omega) (by omega), gd_true, nI_clamp (by omega), bd_eq, nI_1]
        refine hrec2 _ ⟨fun x' a b h' hh' => ?_, fun h' hh' => ?_, fun j hj => by rw [rd_Ii hj]; exact j3 j hj, j4⟩
        · rw [rd_Ik (by omega)]; exact j1 x' a b h' hh'
        · by_cases he : h' = h
          · subst he; rw [rd_Is]
          · rw [rd_Ik (by omega)]; exact j2 h' (by omega)
      refine Wo_if (fun hc => ?_) (fun hc => ?_)
      · rw [nI_eq (by omega) (by omega)] at hc
        exact fin 0 (by rw [if_pos hc])
      · rw [nI_eq (by omega) (by omega)] at hc
        exact fin 10000 (by rw [if_neg hc])
    · rintro n'' t ⟨j1, j2, j3, j4⟩
      have hQt : QL w L t := QL_fr hQ (fun j _ _ => j3 j (by omega)) (by rw [j3 0 (by omega)])
      show Wo (fX12_fillsRest_s15 _ _ _ _ _) _
      unfold fX12_fillsRest_s15
      rw [many_m hQt, b1_some, if_pos (by simp (disch := omega) only [L_add, L_add2, L_mul, L_mul2, L_sub, nI_add, pk_mul, pk_sub, L_le, L_le2, L_lt, L_lt2, L_eq, L_eq2, nI_leI, nI_ltI, nI_eq, nI_clamp, ix_nI, ix_lit, L_cl]; omega), m1_sub]
      refine hrec t ⟨by omega, fun x' a b => ?_, j3, j4⟩
      by_cases he : x' = x
      · subst he; exact j2
      · exact j1 x' (by omega) b
  · rintro n' s ⟨i0, i1, i2, i3⟩
    show Wo (fX12_fillsRest_s9 _ _ _) _
    unfold fX12_fillsRest_s9
    rw [if_pos (by decide), Wo_some]
    exact ⟨fun x hx => i1 x (by omega) hx, i2, i3⟩
