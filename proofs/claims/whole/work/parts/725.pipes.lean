def pcn (x : Nat) : Nat := (x.testBit 0).toNat + (x.testBit 1).toNat + (x.testBit 2).toNat + (x.testBit 3).toNat + (x.testBit 4).toNat + (x.testBit 5).toNat
theorem pcD1 : ∀ n : Fin 7, ∀ x : Fin 64, x.1 < 2 ^ n.1 → pcn x.1 = n.1 → x.1 = 2 ^ n.1 - 1 := by decide +kernel
theorem pcD2 : ∀ n : Fin 7, pcn (2 ^ n.1 - 1) = n.1 := by decide +kernel
theorem pcD3 : ∀ x : Fin 64, ∀ h : Fin 6, x.1.testBit h.1 = false → pcn (x.1 ||| 2 ^ h.1) = pcn x.1 + 1 := by decide +kernel
theorem pcD4 : ∀ n : Fin 7, ∀ x : Fin 64, x.1 < 2 ^ n.1 → (∀ i : Fin 6, i.1 < n.1 → x.1.testBit i.1 = true) → pcn x.1 = n.1 := by decide +kernel
theorem pcD5 : ∀ n : Fin 7, ∀ x : Fin 64, x.1 < 2 ^ n.1 → pcn x.1 ≤ n.1 := by decide +kernel
theorem lt64 {x n : Nat} (h : x < 2 ^ n) (hn : n ≤ 6) : x < 64 := by
  have : 2 ^ n ≤ 2 ^ 6 := Nat.pow_le_pow_right (by omega) hn
  omega
theorem pc_full {n x : Nat} (hn : n ≤ 6) (hx : x < 2 ^ n) (h : pcn x = n) : x = 2 ^ n - 1 := pcD1 ⟨n, by omega⟩ ⟨x, lt64 hx hn⟩ hx h
theorem pc_mask {n : Nat} (hn : n ≤ 6) : pcn (2 ^ n - 1) = n := pcD2 ⟨n, by omega⟩
theorem pc_or {n x h : Nat} (hn : n ≤ 6) (hx : x < 2 ^ n) (hh : h < n) (hb : x.testBit h = false) : pcn (x ||| 2 ^ h) = pcn x + 1 := pcD3 ⟨x, lt64 hx hn⟩ ⟨h, by omega⟩ hb
theorem pc_all {n x : Nat} (hn : n ≤ 6) (hx : x < 2 ^ n) (h : ∀ i, i < n → x.testBit i = true) : pcn x = n := pcD4 ⟨n, by omega⟩ ⟨x, lt64 hx hn⟩ hx (fun i hi => h i.1 hi)
theorem pc_le {n x : Nat} (hn : n ≤ 6) (hx : x < 2 ^ n) : pcn x ≤ n := pcD5 ⟨n, by omega⟩ ⟨x, lt64 hx hn⟩ hx
theorem or_lt {n x h : Nat} (hx : x < 2 ^ n) (hh : h < n) : x ||| 2 ^ h < 2 ^ n := Nat.or_lt_two_pow hx (Nat.pow_lt_pow_right (by omega) hh)
theorem tb_or {x h i : Nat} : (x ||| 2 ^ h).testBit i = (x.testBit i || decide (h = i)) := by rw [Nat.testBit_or, Nat.testBit_two_pow]
/-- some bit is not set -/
theorem al_free {n x : Nat} {g : Nat → Int32} (hn : n ≤ 6) (hx : x < 2 ^ n) (h : pcn x < n) : ∃ b, alF (fun i => !x.testBit i) g n = some b ∧ b < n ∧ x.testBit b = false := by
  cases ha : alF (fun i => !x.testBit i) g n with
  | none =>
    have := alF_none ha
    have := pc_all hn hx (fun i hi => by have := this i hi; simpa using this)
    omega
  | some b =>
    have := alF_lt ha
    exact ⟨b, rfl, this.1, by simpa using this.2⟩
theorem al_bit {n x : Nat} {g : Nat → Int32} {i : Nat} (hi : i < n) (h : x.testBit i = true) : ∃ b, alF x.testBit g n = some b ∧ b < n := by
  cases ha : alF x.testBit g n with
  | none => have := alF_none ha i hi; rw [h] at this; cases this
  | some b => exact ⟨b, rfl, (alF_lt ha).1⟩
/-- how far it is to those that are joined -/
def dj (w : Kw) (x h : Nat) : Int32 := oV (fr w h) 1000000 (alF x.testBit (fr w h) (kn w))
theorem dj_c {w : Kw} {μ : Mem} {h x : Nat} (hK : KZ w) (hQ : QC w μ) (hh : h < kn w) (hx : x < 64) : Wo (fX11_distanceToJoined (nI h) (nI x) μ) (fun r => r = dj w x h) := by
  have hn := hQ.1
  unfold fX11_distanceToJoined
  refine lp0 (fun n' i s => fX11_distanceToJoined_l7 (nI h) (nI x) μ n' s i) (kn w) (by omega) (fun i s => s = oV (fr w h) 1000000 (alF x.testBit (fr w h) i)) _ 1000000 rfl ?_ ?_
  · rintro n' i s hi rfl hrec
    show Wo (fX11_distanceToJoined_s7 _ _ _ _ _ _) _
    unfold fX11_distanceToJoined_s7
    rw [hQ.2.1, if_neg (by simp (disch := omega) only [L_add, L_add2, L_mul, L_mul2, L_sub, nI_add, pk_mul, pk_sub, L_le, L_le2, L_lt, L_lt2, L_eq, L_eq2, nI_leI, nI_ltI, nI_eq, nI_clamp, ix_nI, ix_lit, L_cl]; omega), B_bit hx (by omega), nI_1]
    by_cases hb : x.testBit i = true
    · have hz := @alF_stepT x.testBit (fr w h) 1000000 0 i hb (lt_mil (fr_rng hK hh hi).2)
      rw [if_pos hb, if_pos rfl, dist_c hQ hh hi, b1_some, bd_eq]
      refine hrec _ ?_
      have hz2 := congrArg Prod.snd hz
      dsimp only at hz2
      rw [← hz2]
      unfold jmin
      by_cases hc : oV (fr w h) 1000000 (alF x.testBit (fr w h) i) ≤ fr w h i
      · rw [if_pos hc, if_neg (by grind)]
      · rw [if_neg hc, if_pos (by grind)]
    · rw [if_neg hb, if_neg (by decide)]
      exact hrec _ (by rw [alF_stepF (by simpa using hb)])
  · rintro n' s rfl
    show Wo (fX11_distanceToJoined_s7 _ _ _ _ _ _) _
    unfold fX11_distanceToJoined_s7
    rw [hQ.2.1, if_pos (by simp (disch := omega) only [L_add, L_add2, L_mul, L_mul2, L_sub, nI_add, pk_mul, pk_sub, L_le, L_le2, L_lt, L_lt2, L_eq, L_eq2, nI_leI, nI_ltI, nI_eq, nI_clamp, ix_nI, ix_lit, L_cl]; omega), Wo_some]; rfl
theorem dj_lt {w : Kw} {h x : Nat} (hK : KZ w) (hh : h < kn w) (hx : ∃ i, i < kn w ∧ x.testBit i = true) : dj w x h < 1000000 := by
  obtain ⟨i, hi, hb⟩ := hx
  obtain ⟨b, e, hb2⟩ := al_bit (g := fr w h) hi hb
  unfold dj
  rw [e]
  exact lt_mil (fr_rng hK hh hb2).2
theorem dj_m {w : Kw} {L : Nat} {ν : Mem} {h x : Nat} {K : Int32 → Option Int32} {Q : Int32 → Prop} (hK : KZ w) (hQ : QL w L ν) (hh : h < kn w) (hx : x < 64) (hb : ∃ i, i < kn w ∧ x.testBit i = true) (hk : Wo (K (dj w x h)) Q) : Wo (b1 (fX12_nearestIn (nI h) (nI x) ν) (fun r => b1 (fX12_farOf (nI h) r ν) K)) Q := by
  obtain ⟨i, hi, hb⟩ := hb
  obtain ⟨b, e, hb2⟩ := al_bit (g := fr w h) hi hb
  rw [Wo_b1]
  refine Wo_mono (nearIn_m hK hQ hh hx) ?_
  rintro r rfl
  rw [e, show oI (some b) = nI b from rfl, farOf_m hK hQ hh hb2, b1_some]
  unfold dj at hk
  rw [e] at hk
  exact hk
theorem nearJ_c {w : Kw} {μ : Mem} {x : Nat} (hK : KZ w) (hQ : QC w μ) (hx : x < 64) (hb : ∃ i, i < kn w ∧ x.testBit i = true) : Wo (fX11_nearestToJoined (nI x) μ) (fun r => r = oI0 0 (alF (fun i => !x.testBit i) (dj w x) (kn w))) := by
  have hn := hQ.1
  unfold fX11_nearestToJoined
  refine lp0 (σ := Int32 × Int32) (fun n' i s => fX11_nearestToJoined_l9 (nI x) μ n' s.1 s.2 i) (kn w) (by omega) (fun i s => s = (oI0 0 (alF (fun i => !x.testBit i) (dj w x) i), oV (dj w x) 1000000 (alF (fun i => !x.testBit i) (dj w x) i))) _ (0, 1000000) rfl ?_ ?_
  · rintro n' i s hi rfl hrec
    show Wo (fX11_nearestToJoined_s9 _ _ _ _ _ _) _
    unfold fX11_nearestToJoined_s9
    rw [hQ.2.1, if_neg (by simp (disch := omega) only [L_add, L_add2, L_mul, L_mul2, L_sub, nI_add, pk_mul, pk_sub, L_le, L_le2, L_lt, L_lt2, L_eq, L_eq2, nI_leI, nI_ltI, nI_eq, nI_clamp, ix_nI, ix_lit, L_cl]; omega), B_bit hx (by omega), Wo_b1, nI_1]
    refine Wo_mono (dj_c hK hQ hi hx) ?_
    rintro r rfl
    by_cases hb2 : x.testBit i = true
    · rw [if_pos hb2, if_neg (by decide)]
      exact hrec (_, _) (by rw [alF_stepF (by simpa using hb2)])
    · have hz := @alF_stepT (fun i => !x.testBit i) (dj w x) 1000000 0 i (by simpa using hb2) (dj_lt hK hi hb)
      rw [if_neg hb2, if_pos rfl]
      refine Wo_if (fun hc => ?_) (fun hc => ?_)
      · rw [if_pos hc] at hz
        exact hrec (_, _) hz
      · rw [if_neg hc] at hz
        exact hrec (_, _) hz
  · rintro n' s rfl
    show Wo (fX11_nearestToJoined_s9 _ _ _ _ _ _) _
    unfold fX11_nearestToJoined_s9
    rw [hQ.2.1, if_pos (by simp (disch := omega) only [L_add, L_add2, L_mul, L_mul2, L_sub, nI_add, pk_mul, pk_sub, L_le, L_le2, L_lt, L_lt2, L_eq, L_eq2, nI_leI, nI_ltI, nI_eq, nI_clamp, ix_nI, ix_lit, L_cl]; omega), Wo_some]
theorem pipes26_m {w : Kw} {L : Nat} {ν : Mem} {x : Nat} {K : Int32 → Option Int32} {Q : Int32 → Prop} (hK : KZ w) (hQ : QL w L ν) (hx : x < 64) (hb : ∃ i, i < kn w ∧ x.testBit i = true) (hk : Wo (K (oI0 (-1) (alF (fun i => !x.testBit i) (dj w x) (kn w)))) Q) : Wo (fX12_pipes_l26 K (nI x) ν FU (-1) 0) Q := by
  have hn := hQ.2.1
  refine lp0 (fun n' i s => fX12_pipes_l26 K (nI x) ν n' s i) (kn w) (by omega) (fun i s => s = oI0 (-1) (alF (fun i => !x.testBit i) (dj w x) i)) _ (-1) rfl ?_ ?_
  · rintro n' i s hi rfl hrec
    show Wo (fX12_pipes_s26 _ _ _ _ _ _) _
    unfold fX12_pipes_s26
    rw [many_m hQ, b1_some, if_neg (by simp (disch := omega) only [L_add, L_add2, L_mul, L_mul2, L_sub, nI_add, pk_mul, pk_sub, L_le, L_le2, L_lt, L_lt2, L_eq, L_eq2, nI_leI, nI_ltI, nI_eq, nI_clamp, ix_nI, ix_lit, L_cl]; omega), B_bit hx (by omega), nI_1]
    by_cases hb2 : x.testBit i = true
    · rw [if_pos hb2, if_pos rfl]
      exact hrec _ (by rw [alF_stepF (by simpa using hb2)])
    · rw [if_neg hb2, if_neg (by decide)]
      have e : alF (fun i => !x.testBit i) (dj w x) (i + 1) = (match alF (fun i => !x.testBit i) (dj w x) i with | none => some i | some b => if dj w x b ≤ dj w x i then some b else some i) := by
        show (if !x.testBit i then _ else _) = _
        rw [if_pos (by simpa using hb2)]
        rfl
      cases ha : alF (fun i => !x.testBit i) (dj w x) i with
      | none =>
        rw [ha] at e
        rw [if_pos (by decide)]
        exact hrec _ (by rw [e]; rfl)
      | some b =>
        have hb3 := alF_lt ha
        rw [ha] at e
        rw [show oI0 (-1) (some b) = nI b from rfl, if_neg (nI_pos (by omega))]
        refine dj_m hK hQ hi hx hb ?_
        refine dj_m hK hQ (by omega) hx hb ?_
        refine Wo_if (fun hc => ?_) (fun hc => ?_)
        · exact hrec _ (by rw [e]; dsimp only; rw [if_pos hc]; rfl)
        · exact hrec _ (by rw [e]; dsimp only; rw [if_neg hc]; rfl)
  · rintro n' s rfl
    show Wo (fX12_pipes_s26 _ _ _ _ _ _) _
    unfold fX12_pipes_s26
    rw [many_m hQ, b1_some, if_pos (by simp (disch := omega) only [L_add, L_add2, L_mul, L_mul2, L_sub, nI_add, pk_mul, pk_sub, L_le, L_le2, L_lt, L_lt2, L_eq, L_eq2, nI_leI, nI_ltI, nI_eq, nI_clamp, ix_nI, ix_lit, L_cl]; omega)]
    exact hk
/-- what is joined, and how much it took -/
def pj (w : Kw) : Nat → Nat × Int32
  | 0 => (1, 0)
  | i + 1 => match alF (fun k => !(pj w i).1.testBit k) (dj w (pj w i).1) (kn w) with
    | none => pj w i
    | some h => ((pj w i).1 ||| 2 ^ h, (pj w i).2 + dj w (pj w i).1 h)
theorem pj_s {w : Kw} {i h : Nat} (e : alF (fun k => !(pj w i).1.testBit k) (dj w (pj w i).1) (kn w) = some h) : pj w (i + 1) = ((pj w i).1 ||| 2 ^ h, (pj w i).2 + dj w (pj w i).1 h) := by
  show (match alF (fun k => !(pj w i).1.testBit k) (dj w (pj w i).1) (kn w) with | none => pj w i | some h => ((pj w i).1 ||| 2 ^ h, (pj w i).2 + dj w (pj w i).1 h)) = _
  rw [e]
theorem pj_ok {w : Kw} (hn : kn w ≤ 6) {i : Nat} (hi : i < kn w) : (pj w i).1 < 2 ^ kn w ∧ (pj w i).1.testBit 0 = true ∧ pcn (pj w i).1 = i + 1 := by
  induction i with
  | zero =>
    refine ⟨?_, by show (1 : Nat).testBit 0 = true; decide, by show pcn 1 = 1; decide⟩
    show 1 < 2 ^ kn w
    exact Nat.one_lt_two_pow (by omega)
  | succ i ih =>
    obtain ⟨h1, h2, h3⟩ := ih (by omega)
    obtain ⟨b, e, hb, hb2⟩ := al_free (g := dj w (pj w i).1) hn h1 (by omega)
    rw [pj_s e]
    dsimp only
    refine ⟨or_lt h1 hb, by rw [tb_or, h2]; rfl, by rw [pc_or hn h1 hb hb2, h3]⟩
theorem pipes_c {w : Kw} {μ : Mem} (hK : KZ w) (hQ : QC w μ) (h0 : 1 ≤ kn w) : Wo (fX11_pipes μ) (fun r => r = (pj w (kn w - 1)).2) := by
  have hn := hQ.1
  unfold fX11_pipes
  refine lpU (σ := Int32 × Int32) (fun n' i s => fX11_pipes_l6 μ n' s.1 s.2 i) (kn w) (fun i s => s = ((pj w (i - 1)).2, nI (pj w (i - 1)).1) ∧ 1 ≤ i) _ ?_ ?_ FU 1 (0, 1) h0 (by unfold FU; omega) ⟨rfl, by omega⟩
  · rintro n' i s hi ⟨rfl, hi1⟩ hrec
    obtain ⟨h1, h2, h3⟩ := pj_ok hn (show i - 1 < kn w by omega)
    have hx := lt64 h1 hn
    have hb : ∃ j, j < kn w ∧ (pj w (i - 1)).1.testBit j = true := ⟨0, by omega, h2⟩
    obtain ⟨b, e, hb2, hb3⟩ := al_free (g := dj w (pj w (i - 1)).1) hn h1 (by omega)
    have es := pj_s e
    rw [show i - 1 + 1 = i + 1 - 1 by omega] at es
    show Wo (fX11_pipes_s6 _ _ _ _ _) _
    unfold fX11_pipes_s6
    rw [hQ.2.1, if_neg (by simp (disch := omega) only [L_add, L_add2, L_mul, L_mul2, L_sub, nI_add, pk_mul, pk_sub, L_le, L_le2, L_lt, L_lt2, L_eq, L_eq2, nI_leI, nI_ltI, nI_eq, nI_clamp, ix_nI, ix_lit, L_cl]; omega), Wo_b1]
    refine Wo_mono (nearJ_c hK hQ hx hb) ?_
    rintro r rfl
    rw [e, show oI0 0 (some b) = nI b from rfl, Wo_b1]
    refine Wo_mono (dj_c hK hQ hb2 hx) ?_
    rintro r rfl
    rw [bd_eq, bd_eq, B_shl (by omega), nI_1]
    dsimp only
    rw [B_or]
    exact hrec (_, _) ⟨by rw [es]; rfl, by omega⟩
  · rintro n' s ⟨rfl, hi1⟩
    show Wo (fX11_pipes_s6 _ _ _ _ _) _
    unfold fX11_pipes_s6
    rw [hQ.2.1, if_pos (by simp (disch := omega) only [L_add, L_add2, L_mul, L_mul2, L_sub, nI_add, pk_mul, pk_sub, L_le, L_le2, L_lt, L_lt2, L_eq, L_eq2, nI_leI, nI_ltI, nI_eq, nI_clamp, ix_nI, ix_lit, L_cl]; omega), Wo_some]
theorem pipes_m {w : Kw} {L : Nat} {ν : Mem} (hK : KZ w) (hQ : QL w L ν) (h0 : 1 ≤ kn w) : Wo (fX12_pipes_l15 (nI (2 ^ kn w - 1)) ν FU (nI 1) 0) (fun r => r = (pj w (kn w - 1)).2) := by
  have hn := hQ.2.1
  refine lpU (σ := Int32 × Int32) (fun n' _ s => fX12_pipes_l15 (nI (2 ^ kn w - 1)) ν n' s.1 s.2) (kn w) (fun i s => s = (nI (pj w (i - 1)).1, (pj w (i - 1)).2) ∧ 1 ≤ i) _ ?_ ?_ FU 1 (nI 1, 0) h0 (by unfold FU; omega) ⟨rfl, by omega⟩
  · rintro n' i s hi ⟨rfl, hi1⟩ hrec
    obtain ⟨h1, h2, h3⟩ := pj_ok hn (show i - 1 < kn w by omega)
    have hx := lt64 h1 hn
    have hb : ∃ j, j < kn w ∧ (pj w (i - 1)).1.testBit j = true := ⟨0, by omega, h2⟩
    obtain ⟨b, e, hb2, hb3⟩ := al_free (g := dj w (pj w (i - 1)).1) hn h1 (by omega)
    have es := pj_s e
    rw [show i - 1 + 1 = i + 1 - 1 by omega] at es
    have hm : 2 ^ kn w - 1 < 64 := lt64 (n := kn w) (Nat.sub_lt (Nat.pow_pos (by omega)) (by omega)) hn
    show Wo (fX12_pipes_s15 _ _ _ _ _) _
    unfold fX12_pipes_s15
    rw [if_neg]
    · refine pipes26_m hK hQ hx hb ?_
      rw [e, show oI0 (-1) (some b) = nI b from rfl]
      dsimp only
      refine dj_m hK hQ hb2 hx hb ?_
      rw [bd_eq, bd_eq, B_shl (by omega), B_or]
      exact hrec (_, _) ⟨by rw [es]; rfl, by omega⟩
    · dsimp only
      rw [nI_eq (by omega) (by omega)]
      intro hx2
      have := pc_mask hn
      rw [← hx2] at this
      omega
  · rintro n' s ⟨rfl, hi1⟩
    obtain ⟨h1, h2, h3⟩ := pj_ok hn (show kn w - 1 < kn w by omega)
    show Wo (fX12_pipes_s15 _ _ _ _ _) _
    unfold fX12_pipes_s15
    have := pc_full hn h1 (by omega)
    rw [if_pos (by dsimp only; rw [this]), Wo_some]
theorem maskI : ∀ n : Fin 7, ((1 : Int32) <<< (nI n.1 &&& 31)) - 1 = nI (2 ^ n.1 - 1) := by decide +kernel
theorem mask1 : ∀ n : Fin 7, 1 ≤ n.1 → nI (2 ^ n.1 - 1) &&& 1 = nI 1 := by decide +kernel
theorem r_pipes {μ ν : Mem} (h : REL μ ν) : ∃ (r : Int32), fX11_pipes μ = some r ∧ fX12_pipes ν = some r ∧ REL μ ν := by
  have h' := h
  obtain ⟨w, L, R, a1, a2, a3, a4, a5, a6, a7, a8, a9, a10, a11, a12⟩ := h'
  have hn := a2.1
  by_cases h0 : 1 ≤ kn w
  · refine rel_p h _ (pipes_c a1 a2 h0) ?_
    unfold fX12_pipes
    rw [many_m a3, b1_some, bd_eq, bd_eq, maskI ⟨kn w, by omega⟩, mask1 ⟨kn w, by omega⟩ h0]
    exact pipes_m a1 a3 h0
  · have hz : kn w = 0 := by omega
    refine rel_p h 0 ?_ ?_
    · unfold fX11_pipes FU
      show Wo (fX11_pipes_s6 _ _ _ _ _) _
      unfold fX11_pipes_s6
      rw [a2.2.1, hz, if_pos (by decide), Wo_some]
    · unfold fX12_pipes
      rw [many_m a3, b1_some, bd_eq, bd_eq, hz]
      unfold FU
      show Wo (fX12_pipes_s15 _ _ _ _ _) _
      unfold fX12_pipes_s15
      rw [if_pos (by decide), Wo_some]
