theorem B_bitD : ∀ x : Fin 64, ∀ h : Fin 6, ((nI x.1 >>> (nI h.1 &&& 31)) &&& 1) = (if x.1.testBit h.1 then 1 else 0) := by decide +kernel
theorem B_bit {x h : Nat} (hx : x < 64) (hh : h < 6) : ((nI x >>> (nI h &&& 31)) &&& 1) = (if x.testBit h then 1 else 0) := B_bitD ⟨x, hx⟩ ⟨h, hh⟩
theorem bt_64 (p : Nat → Bool) {n : Nat} (hn : n ≤ 6) : bt p n < 64 := by
  have h1 := bt_lt p n
  have h2 : 2 ^ n ≤ 2 ^ 6 := Nat.pow_le_pow_right (by omega) hn
  omega
theorem tb_hi {x n i : Nat} (h : x < 2 ^ n) (hi : n ≤ i) : x.testBit i = false := by
  apply Nat.testBit_lt_two_pow
  have : 2 ^ n ≤ 2 ^ i := Nat.pow_le_pow_right (by omega) hi
  omega
theorem bt_T {p : Nat → Bool} {n : Nat} (h : p n = true) : bt p (n + 1) = bt p n ||| 2 ^ n := by
  show (if p n then _ else _) = _
  rw [if_pos h]
theorem bt_F {p : Nat → Bool} {n : Nat} (h : p n = false) : bt p (n + 1) = bt p n := by
  show (if p n then _ else _) = _
  rw [if_neg (by rw [h]; decide)]
def pc (x : Int32) : Int32 := 0 + ((x >>> ((0 : Int32) &&& 31)) &&& 1) + ((x >>> ((1 : Int32) &&& 31)) &&& 1) + ((x >>> ((2 : Int32) &&& 31)) &&& 1) + ((x >>> ((3 : Int32) &&& 31)) &&& 1) + ((x >>> ((4 : Int32) &&& 31)) &&& 1) + ((x >>> ((5 : Int32) &&& 31)) &&& 1)
theorem bits_m (x : Int32) : fX12_bits x = some (pc x) := by
  have e : ∀ (n : Nat) (a : Int32) (i : Nat), i < 6 → fX12_bits_l4 x (n + 1) a (nI i) = fX12_bits_l4 x n (a + ((x >>> (nI i &&& 31)) &&& 1)) (nI (i + 1)) := by
    intro n a i hi
    show fX12_bits_s4 _ _ _ _ = _
    unfold fX12_bits_s4
    rw [if_neg (by simp (disch := omega) only [L_add, L_add2, L_mul, L_mul2, L_sub, nI_add, pk_mul, pk_sub, L_le, L_le2, L_lt, L_lt2, L_eq, L_eq2, nI_leI, nI_ltI, nI_eq, nI_clamp, ix_nI, ix_lit, L_cl]; omega), bd_eq, nI_1]
  have e6 : ∀ (n : Nat) (a : Int32), fX12_bits_l4 x (n + 1) a (nI 6) = some a := by
    intro n a
    show fX12_bits_s4 _ _ _ _ = _
    unfold fX12_bits_s4
    rw [if_pos (by decide)]
  unfold fX12_bits FU
  rw [show (fX12_bits_l4 x 100000 0 0) = fX12_bits_l4 x 100000 0 (nI 0) from rfl, e _ _ _ (by omega), e _ _ _ (by omega), e _ _ _ (by omega), e _ _ _ (by omega), e _ _ _ (by omega), e _ _ _ (by omega), e6]
  rfl
theorem bitCount_D : ∀ x : Fin 64, fJ6_bitCount_0f7a4 (nI x.1) = some (pc (nI x.1)) := by decide +kernel
theorem bitCount_c {x : Nat} (h : x < 64) : fJ6_bitCount_0f7a4 (nI x) = some (pc (nI x)) := bitCount_D ⟨x, h⟩
theorem pc_D : ∀ x : Fin 64, 0 ≤ pc (nI x.1) ∧ pc (nI x.1) ≤ 6 := by decide +kernel
def mk (w : Kw) (R : Rw) (h m : Nat) : Int32 := if m = 0 then kp w h else if m = 1 then R (6 + h) else if m = 2 then R (12 + h) else R h
theorem markOf_m {w : Kw} {L h m : Nat} {ν : Mem} {R : Rw} (hQ : QL w L ν) (hN : NR ν R) (hh : h < kn w) (hm : m < 4) : fX12_markOf (nI h) (nI m) ν = some (mk w R h m) := by
  have hn := hQ.2.1
  unfold fX12_markOf
  match m, hm with
  | 0, _ => rw [if_pos (show nI 0 = 0 from rfl), panesAt_m hQ hh]; rfl
  | 1, _ => rw [if_neg (by decide), if_pos (show nI 1 = 1 from rfl), L_add2, ix_nI (by omega) (by omega), gd_true, nI_clamp (by omega), hN _ (by omega)]; rfl
  | 2, _ => rw [if_neg (by decide), if_neg (by decide), if_pos (show nI 2 = 2 from rfl), L_add2, ix_nI (by omega) (by omega), gd_true, nI_clamp (by omega), hN _ (by omega)]; rfl
  | 3, _ => rw [if_neg (by decide), if_neg (by decide), if_neg (by decide), ix_nI (by omega) (by omega), gd_true, nI_clamp (by omega), hN _ (by omega)]; rfl
theorem atLeast_c {w : Kw} {h m : Nat} {μ : Mem} {R : Rw} {v : Int32} (hS : SR μ 24 (kp w) R) (hh : h < 6) (hm : m < 4) : fX9_isAtLeast 24 (nI h) (nI m) v μ = some (if mk w R h m < v then 0 else 1) := by
  unfold fX9_isAtLeast
  rw [if_neg (nI_pos (by omega)), if_neg (by simp (disch := omega) only [L_add, L_add2, L_mul, L_mul2, L_sub, nI_add, pk_mul, pk_sub, L_le, L_le2, L_lt, L_lt2, L_eq, L_eq2, nI_leI, nI_ltI, nI_eq, nI_clamp, ix_nI, ix_lit, L_cl]; omega), ix_nI (by omega) (by omega), gd_true, nI_clamp (by omega)]
  have e : fX7_get 24 (nI h) (xMARK m) μ = some (mk w R h m) := by
    match m, hm with
    | 0, _ => exact get_p hS hh
    | 1, _ => exact get_2 hS hh
    | 2, _ => exact get_3 hS hh
    | 3, _ => exact get_1 hS hh
  rw [e, b1_some]
  split <;> rfl
def ft (g : Nat → Bool) : Nat → Int32
  | 0 => 1
  | n + 1 => if g n then ft g n else 0
theorem ft_T {g : Nat → Bool} {n : Nat} (h : g n = true) : ft g (n + 1) = ft g n := by
  show (if g n then _ else _) = _
  rw [if_pos h]
theorem ft_F {g : Nat → Bool} {n : Nat} (h : ¬ g n = true) : ft g (n + 1) = 0 := by
  show (if g n then _ else _) = _
  rw [if_neg h]
theorem ft_01 (g : Nat → Bool) (n : Nat) : ft g n = 0 ∨ ft g n = 1 := by
  induction n with
  | zero => exact Or.inr rfl
  | succ n ih => unfold ft; split; exact ih; exact Or.inl rfl
/-- does what is told at i fit the house -/
def gf (w : Kw) (R : Rw) (ν : Mem) (h i : Nat) : Bool := (if mk w R h (ν.1 44 i).toNatClampNeg < ν.1 45 i then (0 : Int32) else 1) == ν.1 46 i
def wh (w : Kw) (R : Rw) (ν : Mem) (k : Nat) : Nat := bt (fun h => ft (gf w R ν h) k == 1) (kn w)
theorem fitting_c {w : Kw} {μ ν : Mem} {R : Rw} {t k : Nat} (hQ : QC w μ) (hS : SF μ 24 (kp w) R) (ht : t ≤ 20) (hT : ∀ i, i < t → ∃ m, m < 4 ∧ μ.1 187 i = nI m ∧ ν.1 44 i = nI m ∧ μ.1 188 i = ν.1 45 i ∧ μ.1 189 i = ν.1 46 i ∧ (μ.1 189 i = 0 ∨ μ.1 189 i = 1)) (hk : k ≤ t) : Wo (fX9_fitting 24 (μ.1 17 2) (nI k) μ) (fun r => r = nI (wh w R ν k)) := by
  have hn := hQ.1
  rw [hQ.2.1]
  unfold fX9_fitting
  refine lp0 (fun n' x s => fX9_fitting_l6 24 (nI (kn w)) (nI k) μ n' s x) (kn w) (by omega) (fun i s => s = nI (bt (fun h => ft (gf w R ν h) k == 1) i)) _ 0 rfl ?_ ?_
  · rintro n' i s hi rfl hrec
    show Wo (fX9_fitting_s6 _ _ _ _ _ _ _) _
    unfold fX9_fitting_s6
    rw [if_neg (by simp (disch := omega) only [L_add, L_add2, L_mul, L_mul2, L_sub, nI_add, pk_mul, pk_sub, L_le, L_le2, L_lt, L_lt2, L_eq, L_eq2, nI_leI, nI_ltI, nI_eq, nI_clamp, ix_nI, ix_lit, L_cl]; omega)]
    refine lp0 (fun n' x s => fX9_fitting_l18 _ 24 (nI k) (nI i) μ n' s x) k (by omega) (fun j s => s = ft (gf w R ν i) j) _ 1 rfl ?_ ?_
    · rintro n' j s hj rfl hrec2
      show Wo (fX9_fitting_s18 _ _ _ _ _ _ _ _) _
      unfold fX9_fitting_s18
      rw [if_neg (by simp (disch := omega) only [L_add, L_add2, L_mul, L_mul2, L_sub, nI_add, pk_mul, pk_sub, L_le, L_le2, L_lt, L_lt2, L_eq, L_eq2, nI_leI, nI_ltI, nI_eq, nI_clamp, ix_nI, ix_lit, L_cl]; omega), if_neg (by simp (disch := omega) only [L_add, L_add2, L_mul, L_mul2, L_sub, nI_add, pk_mul, pk_sub, L_le, L_le2, L_lt, L_lt2, L_eq, L_eq2, nI_leI, nI_ltI, nI_eq, nI_clamp, ix_nI, ix_lit, L_cl]; omega), nI_1]
      obtain ⟨m, hm, e1, e2, e3, e4, e5⟩ := hT j (by omega)
      have eg : gf w R ν i j = ((if mk w R i m < ν.1 45 j then (0 : Int32) else 1) == ν.1 46 j) := by unfold gf; rw [e2, nI_clamp (by omega)]
      rcases ft_01 (gf w R ν i) j with h0 | h0
      · rw [h0, if_pos rfl]
        exact hrec2 _ (by unfold ft; rw [h0]; split <;> rfl)
      · rw [h0, if_neg n10, ix_nI (by omega) (by omega), nI_clamp (by omega), e1, e3, e4, atLeast_c hS.1 (by omega) hm]
        simp only [gd_true, b1_some]
        refine Wo_if (fun hx => hrec2 _ ?_) (fun hx => hrec2 _ ?_)
        · unfold ft; rw [eg, if_pos (by simpa using hx)]; exact h0.symm
        · unfold ft; rw [eg, if_neg (by simpa using hx)]
    · rintro n' s rfl
      show Wo (fX9_fitting_s18 _ _ _ _ _ _ _ _) _
      unfold fX9_fitting_s18
      rw [if_pos (by simp (disch := omega) only [L_add, L_add2, L_mul, L_mul2, L_sub, nI_add, pk_mul, pk_sub, L_le, L_le2, L_lt, L_lt2, L_eq, L_eq2, nI_leI, nI_ltI, nI_eq, nI_clamp, ix_nI, ix_lit, L_cl]; omega)]
      unfold fX9_fitting_b79
      rw [bd_eq, nI_1, B_shl (by omega), B_or]
      refine Wo_if (fun hx => hrec _ ?_) (fun hx => hrec _ ?_)
      · rw [bt_F (by rw [hx]; rfl)]
      · rcases ft_01 (gf w R ν i) k with h0 | h0
        · exact absurd h0 hx
        · rw [bt_T (by rw [h0]; rfl)]
  · rintro n' s rfl
    show Wo (fX9_fitting_s6 _ _ _ _ _ _ _) _
    unfold fX9_fitting_s6
    rw [if_pos (by simp (disch := omega) only [L_add, L_add2, L_mul, L_mul2, L_sub, nI_add, pk_mul, pk_sub, L_le, L_le2, L_lt, L_lt2, L_eq, L_eq2, nI_leI, nI_ltI, nI_eq, nI_clamp, ix_nI, ix_lit, L_cl]; omega), Wo_some]; rfl
theorem whoseBits_m {w : Kw} {L : Nat} {ν : Mem} {R : Rw} {t k : Nat} (hQ : QL w L ν) (hN : NR ν R) (ht : t ≤ 20) (hT : ∀ i, i < t → ∃ m, m < 4 ∧ ν.1 44 i = nI m) (hk : k ≤ t) : Wo (fX12_whoseBits (nI k) ν) (fun r => r = nI (wh w R ν k)) := by
  have hn := hQ.2.1
  unfold fX12_whoseBits
  refine lp0 (fun n' x s => fX12_whoseBits_l4 (nI k) ν n' s x) (kn w) (by omega) (fun i s => s = nI (bt (fun h => ft (gf w R ν h) k == 1) i)) _ 0 rfl ?_ ?_
  · rintro n' i s hi rfl hrec
    show Wo (fX12_whoseBits_s4 _ _ _ _ _) _
    unfold fX12_whoseBits_s4
    rw [many_m hQ, b1_some, if_neg (by simp (disch := omega) only [L_add, L_add2, L_mul, L_mul2, L_sub, nI_add, pk_mul, pk_sub, L_le, L_le2, L_lt, L_lt2, L_eq, L_eq2, nI_leI, nI_ltI, nI_eq, nI_clamp, ix_nI, ix_lit, L_cl]; omega)]
    refine lp0 (fun n' x s => fX12_whoseBits_l18 _ (nI k) (nI i) ν n' s x) k (by omega) (fun j s => s = ft (gf w R ν i) j) _ 1 rfl ?_ ?_
    · rintro n' j s hj rfl hrec2
      show Wo (fX12_whoseBits_s18 _ _ _ _ _ _ _) _
      unfold fX12_whoseBits_s18
      obtain ⟨m, hm, e2⟩ := hT j (by omega)
      have eg : gf w R ν i j = ((if mk w R i m < ν.1 45 j then (0 : Int32) else 1) == ν.1 46 j) := by unfold gf; rw [e2, nI_clamp (by omega)]
      rw [if_neg (by simp (disch := omega) only [L_add, L_add2, L_mul, L_mul2, L_sub, nI_add, pk_mul, pk_sub, L_le, L_le2, L_lt, L_lt2, L_eq, L_eq2, nI_leI, nI_ltI, nI_eq, nI_clamp, ix_nI, ix_lit, L_cl]; omega), ix_nI (by omega) (by omega), gd_true, nI_clamp (by omega), e2, markOf_m hQ hN hi hm, b1_some, gd_true]
      unfold fX12_whoseBits_b51
      rw [ix_nI (by omega) (by omega), gd_true, gd_true, nI_clamp (by omega), nI_1 j]
      by_cases hc : mk w R i m < ν.1 45 j
      · rw [if_pos hc]
        rw [if_pos hc] at eg
        refine Wo_if (fun hx => hrec2 _ ?_) (fun hx => hrec2 _ ?_)
        · rw [ft_T (by rw [eg]; simpa using hx)]
        · rw [ft_F (by rw [eg]; simpa using hx)]
      · rw [if_neg hc]
        rw [if_neg hc] at eg
        refine Wo_if (fun hx => hrec2 _ ?_) (fun hx => hrec2 _ ?_)
        · rw [ft_T (by rw [eg]; simpa using hx)]
        · rw [ft_F (by rw [eg]; simpa using hx)]
    · rintro n' s rfl
      show Wo (fX12_whoseBits_s18 _ _ _ _ _ _ _) _
      unfold fX12_whoseBits_s18
      rw [if_pos (by simp (disch := omega) only [L_add, L_add2, L_mul, L_mul2, L_sub, nI_add, pk_mul, pk_sub, L_le, L_le2, L_lt, L_lt2, L_eq, L_eq2, nI_leI, nI_ltI, nI_eq, nI_clamp, ix_nI, ix_lit, L_cl]; omega)]
      dsimp only
      rw [bd_eq, nI_1, B_shl (by omega), B_or]
      refine Wo_if (fun hx => hrec _ ?_) (fun hx => hrec _ ?_)
      · rw [bt_F (by rw [hx]; rfl)]
      · rcases ft_01 (gf w R ν i) k with h0 | h0
        · exact absurd h0 hx
        · rw [bt_T (by rw [h0]; rfl)]
  · rintro n' s rfl
    show Wo (fX12_whoseBits_s4 _ _ _ _ _) _
    unfold fX12_whoseBits_s4
    rw [many_m hQ, b1_some, if_pos (by simp (disch := omega) only [L_add, L_add2, L_mul, L_mul2, L_sub, nI_add, pk_mul, pk_sub, L_le, L_le2, L_lt, L_lt2, L_eq, L_eq2, nI_leI, nI_ltI, nI_eq, nI_clamp, ix_nI, ix_lit, L_cl]; omega), Wo_some]; rfl
theorem r_whose {μ ν : Mem} (h : REL μ ν) (z0 : Int32) (z1 : Int32) : ∃ (r : Int32), fX11_whose z0 z1 μ = some r ∧ fX12_whose z0 z1 ν = some r ∧ REL μ ν := by
  have h' := h
  obtain ⟨w, L, R, a1, a2, a3, a4, a5, a6, a7, a8, ⟨t, t1, t2, t3, t4⟩, a10, a11, a12⟩ := h'
  have hn := a2.1
  have hT : ∀ i, i < t → ∃ m, m < 4 ∧ ν.1 44 i = nI m := fun i hi => by obtain ⟨m, hm, _, e, _⟩ := t4 i hi; exact ⟨m, hm, e⟩
  unfold fX11_whose fX12_whose
  rw [t2, t3, in_c, b1_some]
  by_cases c0 : z0 < 0
  · rw [if_pos c0, if_pos (Or.inl c0), if_pos rfl]; exact ⟨_, rfl, rfl, h⟩
  · rw [if_neg c0]
    by_cases c1 : nI t < z0
    · rw [if_pos c1, if_pos (Or.inr c1), if_pos rfl]; exact ⟨_, rfl, rfl, h⟩
    · rw [if_neg c1, if_neg (show ¬ (z0 < 0 ∨ nI t < z0) from fun hx => hx.elim c0 c1), if_neg n10, in01, b1_some]
      obtain ⟨k, hk, rfl⟩ := nI_of c0
      rw [nI_ltI (by omega) (by omega)] at c1
      by_cases c2 : z1 = 0 ∨ z1 = 1
      · have e : (if z1 = 0 then fX11_whose_b26 (nI k) z1 μ else if z1 = 1 then fX11_whose_b26 (nI k) z1 μ else some (-1)) = fX11_whose_b26 (nI k) z1 μ := by
          rcases c2 with c2 | c2
          · rw [if_pos c2]
          · rw [if_neg (by rw [c2]; decide), if_pos c2]
        rw [e, if_pos c2, if_neg n10]
        unfold fX11_whose_b26
        have hx : wh w R ν k < 64 := bt_64 _ hn
        refine rel_p h (if z1 = 0 then pc (nI (wh w R ν k)) else nI (wh w R ν k)) ?_ ?_
        · rw [Wo_b1]
          refine Wo_mono (fitting_c a2 a5 t1 t4 (by omega)) ?_
          rintro r rfl
          refine Wo_if (fun hz => ?_) (fun hz => ?_)
          · rw [bitCount_c hx, b1_some, Wo_some, if_pos hz]
          · rw [Wo_some, if_neg hz]
        · rw [Wo_b1]
          refine Wo_mono (whoseBits_m a3 a6 t1 hT (by omega)) ?_
          rintro r rfl
          refine Wo_if (fun hz => ?_) (fun hz => ?_)
          · rw [bits_m, b1_some, Wo_some, if_pos hz]
          · rw [Wo_some, if_neg hz]
      · rw [if_neg c2, if_pos rfl, if_neg (fun hx => c2 (Or.inl hx)), if_neg (fun hx => c2 (Or.inr hx))]; exact ⟨_, rfl, rfl, h⟩
def yk (x : Nat) (g : Nat → Bool) : Nat → Nat
  | 0 => 0
  | n + 1 => if x.testBit n && g n then yk x g n + 1 else yk x g n
theorem yk_le (x : Nat) (g : Nat → Bool) (n : Nat) : yk x g n ≤ n := by
  induction n with
  | zero => exact Nat.le_refl _
  | succ n ih => unfold yk; split <;> omega
theorem yk_z {x m : Nat} {g : Nat → Bool} (h : x < 2 ^ m) (n : Nat) : yk x g (m + n) = yk x g m := by
  induction n with
  | zero => rfl
  | succ n ih =>
    show (if x.testBit (m + n) && g (m + n) then _ else _) = _
    rw [tb_hi h (by omega), Bool.false_and]
    exact ih
/-- how many are left at worst -/
def lw (w : Kw) (R : Rw) (v : Int32) (x m : Nat) : Int32 := jmax (nI (yk x (fun h => !(decide (mk w R h m < v))) (kn w))) (pc (nI x) - nI (yk x (fun h => !(decide (mk w R h m < v))) (kn w)))
theorem lw_lt {w : Kw} {R : Rw} {v : Int32} {x m : Nat} (hn : kn w ≤ 6) (hx : x < 64) : lw w R v x m < 1000000 := by
  unfold lw
  have h1 := yk_le x (fun h => !(decide (mk w R h m < v))) (kn w)
  generalize yk x (fun h => !(decide (mk w R h m < v))) (kn w) = y at h1 ⊢
  have h2 := pc_D ⟨x, hx⟩
  dsimp only at h2
  generalize pc (nI x) = q at h2 ⊢
  have h3 := nI_pos' (n := y) (by omega)
  have h4 : nI y ≤ nI 6 := nI_le (by omega) (by omega)
  rw [show nI 6 = 6 from rfl] at h4
  unfold jmax
  split <;> grind
theorem left_c {w : Kw} {μ : Mem} {R : Rw} {v : Int32} {x m : Nat} (hS : SR μ 24 (kp w) R) (hn : kn w ≤ 6) (hx : x < 2 ^ kn w) (hm : m < 4) : Wo (fX9_leftAtWorst 24 (nI x) (nI m) v μ) (fun r => r = lw w R v x m) := by
  have hx6 : x < 64 := by
    have : 2 ^ kn w ≤ 2 ^ 6 := Nat.pow_le_pow_right (by omega) hn
    omega
  unfold fX9_leftAtWorst
  refine lp0 (fun n' i s => fX9_leftAtWorst_l6 24 (nI x) (nI m) v μ n' s i) 6 (by omega) (fun i s => s = nI (yk x (fun h => !(decide (mk w R h m < v))) i)) _ 0 rfl ?_ ?_
  · rintro n' i s hi rfl hrec
    show Wo (fX9_leftAtWorst_s6 _ _ _ _ _ _ _ _) _
    unfold fX9_leftAtWorst_s6
    rw [if_neg (by simp (disch := omega) only [L_add, L_add2, L_mul, L_mul2, L_sub, nI_add, pk_mul, pk_sub, L_le, L_le2, L_lt, L_lt2, L_eq, L_eq2, nI_leI, nI_ltI, nI_eq, nI_clamp, ix_nI, ix_lit, L_cl]; omega), B_bit hx6 hi, atLeast_c hS hi hm, b1_some, nI_1, nI_1]
    by_cases hb : x.testBit i = true
    · rw [if_pos hb, if_pos rfl]
      by_cases hc : mk w R i m < v
      · rw [if_pos hc, if_pos rfl]
        exact hrec _ (by simp [yk, hc])
      · rw [if_neg hc, if_neg n10]
        exact hrec _ (by simp [yk, hc, hb])
    · rw [if_neg hb, if_neg (by decide)]
      exact hrec _ (by simp [yk, hb])
  · rintro n' s rfl
    show Wo (fX9_leftAtWorst_s6 _ _ _ _ _ _ _ _) _
    unfold fX9_leftAtWorst_s6
    have e : yk x (fun h => !(decide (mk w R h m < v))) 6 = yk x (fun h => !(decide (mk w R h m < v))) (kn w) := by
      have := @yk_z x (kn w) (fun h => !(decide (mk w R h m < v))) hx (6 - kn w)
      rw [show kn w + (6 - kn w) = 6 by omega] at this
      exact this
    rw [if_pos (by decide), bitCount_c hx6, b1_some, Wo_some, e]; rfl
/-- the first of the least -/
def alF (p : Nat → Bool) (g : Nat → Int32) : Nat → Option Nat
  | 0 => none
  | n + 1 => if p n then (match alF p g n with
    | none => some n
    | some b => if g b ≤ g n then some b else some n) else alF p g n
theorem alF_lt {p : Nat → Bool} {g : Nat → Int32} {n b : Nat} (h : alF p g n = some b) : b < n ∧ p b = true := by
  induction n generalizing b with
  | zero => cases h
  | succ n ih =>
    unfold alF at h
    split at h
    · rename_i hp
      split at h
      · cases h; exact ⟨by omega, hp⟩
      · split at h
        · cases h
          have := ih (by assumption)
          exact ⟨by omega, this.2⟩
        · cases h; exact ⟨by omega, hp⟩
    · have := ih h
      exact ⟨by omega, this.2⟩
theorem alF_none {p : Nat → Bool} {g : Nat → Int32} {n : Nat} (h : alF p g n = none) : ∀ i, i < n → p i = false := by
  induction n with
  | zero => intro i hi; omega
  | succ n ih =>
    intro i hi
    unfold alF at h
    split at h
    · split at h
      · cases h
      · split at h <;> cases h
    · rename_i hp
      by_cases he : i = n
      · subst he; simpa using hp
      · exact ih h i (by omega)
def oI0 (z : Int32) (o : Option Nat) : Int32 := match o with
  | none => z
  | some b => nI b
theorem alF_stepT {p : Nat → Bool} {g : Nat → Int32} {z z2 : Int32} {n : Nat} (hp : p n = true) (hz : g n < z) : (if oV g z (alF p g n) ≤ g n then (oI0 z2 (alF p g n), oV g z (alF p g n)) else (nI n, g n)) = (oI0 z2 (alF p g (n + 1)), oV g z (alF p g (n + 1))) := by
  have e : alF p g (n + 1) = (match alF p g n with | none => some n | some b => if g b ≤ g n then some b else some n) := by
    show (if p n then _ else _) = _
    rw [if_pos hp]
  rw [e]
  cases alF p g n with
  | none => rw [if_neg (by show ¬ z ≤ g n; grind)]; rfl
  | some b =>
    show (if g b ≤ g n then (nI b, g b) else (nI n, g n)) = (oI0 z2 (if g b ≤ g n then some b else some n), oV g z (if g b ≤ g n then some b else some n))
    split <;> rfl
theorem alF_stepF {p : Nat → Bool} {g : Nat → Int32} {n : Nat} (hp : p n = false) : alF p g (n + 1) = alF p g n := by
  show (if p n then _ else _) = _
  rw [if_neg (by rw [hp]; decide)]
theorem best_c {w : Kw} {μ : Mem} {R : Rw} {v : Int32} {x : Nat} (hS : SR μ 24 (kp w) R) (hn : kn w ≤ 6) (hx : x < 2 ^ kn w) : Wo (fX9_bestMark 24 (nI x) v μ) (fun r => r = oI (alF (fun _ => true) (lw w R v x) 4)) := by
  have hx6 : x < 64 := by
    have : 2 ^ kn w ≤ 2 ^ 6 := Nat.pow_le_pow_right (by omega) hn
    omega
  unfold fX9_bestMark
  refine lp0 (σ := Int32 × Int32) (fun n' i s => fX9_bestMark_l10 24 (nI x) v μ n' s.1 s.2 i) 4 (by omega) (fun i s => s = (oI0 0 (alF (fun _ => true) (lw w R v x) i), oV (lw w R v x) 1000000 (alF (fun _ => true) (lw w R v x) i))) _ (0, 1000000) rfl ?_ ?_
  · rintro n' i s hi rfl hrec
    show Wo (fX9_bestMark_s10 _ _ _ _ _ _ _ _) _
    unfold fX9_bestMark_s10
    rw [if_neg (by simp (disch := omega) only [L_add, L_add2, L_mul, L_mul2, L_sub, nI_add, pk_mul, pk_sub, L_le, L_le2, L_lt, L_lt2, L_eq, L_eq2, nI_leI, nI_ltI, nI_eq, nI_clamp, ix_nI, ix_lit, L_cl]; omega), Wo_b1, nI_1]
    refine Wo_mono (left_c hS hn hx (m := i) hi) ?_
    rintro r rfl
    have hz := @alF_stepT (fun _ => true) (lw w R v x) 1000000 0 i rfl (lw_lt hn hx6)
    refine Wo_if (fun hc => ?_) (fun hc => ?_)
    · rw [if_pos hc] at hz
      exact hrec (_, _) hz
    · rw [if_neg hc] at hz
      exact hrec (_, _) hz
  · rintro n' s rfl
    show Wo (fX9_bestMark_s10 _ _ _ _ _ _ _ _) _
    unfold fX9_bestMark_s10
    rw [if_pos (by decide), Wo_some]
    dsimp only
    cases ha : alF (fun _ => true) (lw w R v x) 4 with
    | none => exact absurd (alF_none ha 0 (by omega)) (by decide)
    | some b => rfl
theorem look_l57 {w : Kw} {L : Nat} {ν : Mem} {R : Rw} {v : Int32} {x m : Nat} {K : Int32 → Option Int32} {Q : Int32 → Prop} (hQ : QL w L ν) (hN : NR ν R) (hx : x < 64) (hm : m < 4) (hK : Wo (K (nI (yk x (fun h => !(decide (mk w R h m < v))) (kn w)))) Q) : Wo (fX12_look_l57 K v (nI x) (nI m) ν FU 0 0) Q := by
  have hn := hQ.2.1
  refine lp0 (fun n' i s => fX12_look_l57 K v (nI x) (nI m) ν n' s i) (kn w) (by omega) (fun i s => s = nI (yk x (fun h => !(decide (mk w R h m < v))) i)) _ 0 rfl ?_ ?_
  · rintro n' i s hi rfl hrec
    show Wo (fX12_look_s57 _ _ _ _ _ _ _ _) _
    unfold fX12_look_s57
    rw [many_m hQ, b1_some, if_neg (by simp (disch := omega) only [L_add, L_add2, L_mul, L_mul2, L_sub, nI_add, pk_mul, pk_sub, L_le, L_le2, L_lt, L_lt2, L_eq, L_eq2, nI_leI, nI_ltI, nI_eq, nI_clamp, ix_nI, ix_lit, L_cl]; omega), B_bit hx (by omega), markOf_m hQ hN hi hm, b1_some, nI_1, nI_1]
    by_cases hb : x.testBit i = true
    · rw [if_pos hb, if_pos rfl]
      by_cases hc : mk w R i m < v
      · rw [if_pos hc]
        exact hrec _ (by simp [yk, hc])
      · rw [if_neg hc]
        exact hrec _ (by simp [yk, hc, hb])
    · rw [if_neg hb, if_neg (by decide)]
      exact hrec _ (by simp [yk, hb])
  · rintro n' s rfl
    show Wo (fX12_look_s57 _ _ _ _ _ _ _ _) _
    unfold fX12_look_s57
    rw [many_m hQ, b1_some, if_pos (by simp (disch := omega) only [L_add, L_add2, L_mul, L_mul2, L_sub, nI_add, pk_mul, pk_sub, L_le, L_le2, L_lt, L_lt2, L_eq, L_eq2, nI_leI, nI_ltI, nI_eq, nI_clamp, ix_nI, ix_lit, L_cl]; omega)]
    exact hK
theorem look_m {w : Kw} {L : Nat} {ν : Mem} {R : Rw} {v : Int32} {x : Nat} (hQ : QL w L ν) (hN : NR ν R) (hx : x < 64) (h0 : x ≠ 0) : Wo (fX12_look_l41 v (nI x) ν FU (-2) 0 0) (fun r => r = oI (alF (fun _ => true) (lw w R v x) 4)) := by
  have hn := hQ.2.1
  refine lp0 (σ := Int32 × Int32) (fun n' i s => fX12_look_l41 v (nI x) ν n' s.1 s.2 i) 4 (by omega) (fun i s => s = (oI0 (-2) (alF (fun _ => true) (lw w R v x) i), oV (lw w R v x) 0 (alF (fun _ => true) (lw w R v x) i))) _ (-2, 0) rfl ?_ ?_
  · rintro n' i s hi rfl hrec
    show Wo (fX12_look_s41 _ _ _ _ _ _ _) _
    unfold fX12_look_s41
    rw [if_neg (by simp (disch := omega) only [L_add, L_add2, L_mul, L_mul2, L_sub, nI_add, pk_mul, pk_sub, L_le, L_le2, L_lt, L_lt2, L_eq, L_eq2, nI_leI, nI_ltI, nI_eq, nI_clamp, ix_nI, ix_lit, L_cl]; omega), if_neg (by simp (disch := omega) only [L_add, L_add2, L_mul, L_mul2, L_sub, nI_add, pk_mul, pk_sub, L_le, L_le2, L_lt, L_lt2, L_eq, L_eq2, nI_leI, nI_ltI, nI_eq, nI_clamp, ix_nI, ix_lit, L_cl]; omega)]
    refine look_l57 (R := R) hQ hN hx hi ?_
    generalize hy : yk x (fun h => !(decide (mk w R h i < v))) (kn w) = y
    have el : lw w R v x i = jmax (nI y) (pc (nI x) - nI y) := by unfold lw; rw [hy]
    have fin : Wo (fX12_look_b121 (fX12_look_l41 v (nI x) ν n') v (nI x) (oI0 (-2) (alF (fun _ => true) (lw w R v x) i)) (oV (lw w R v x) 0 (alF (fun _ => true) (lw w R v x) i)) (nI i) (lw w R v x i) ν) (fun r => r = oI (alF (fun _ => true) (lw w R v x) 4)) := by
      unfold fX12_look_b121
      have e : alF (fun _ => true) (lw w R v x) (i + 1) = (match alF (fun _ => true) (lw w R v x) i with | none => some i | some b => if lw w R v x b ≤ lw w R v x i then some b else some i) := rfl
      rw [nI_1]
      cases ha : alF (fun _ => true) (lw w R v x) i with
      | none =>
        rw [ha] at e
        rw [if_pos (by decide)]
        exact hrec (_, _) (by rw [e]; rfl)
      | some b =>
        have hb := alF_lt ha
        rw [ha] at e
        rw [show oI0 (-2) (some b) = nI b from rfl, if_neg (nI_pos (by omega)), show oV (lw w R v x) 0 (some b) = lw w R v x b from rfl]
        refine Wo_if (fun hc => ?_) (fun hc => ?_)
        · exact hrec (_, _) (by rw [e]; dsimp only; rw [if_neg (by grind)]; rfl)
        · exact hrec (_, _) (by rw [e]; dsimp only; rw [if_pos (by grind)]; rfl)
    rw [bits_m, b1_some, b1_some]
    refine Wo_if (fun hc => ?_) (fun hc => ?_)
    · have : pc (nI x) - nI y = lw w R v x i := by rw [el]; unfold jmax; split; rfl; grind
      rw [this]; exact fin
    · have : nI y = lw w R v x i := by rw [el]; unfold jmax; split; grind; rfl
      rw [this]; exact fin
  · rintro n' s rfl
    show Wo (fX12_look_s41 _ _ _ _ _ _ _) _
    unfold fX12_look_s41
    rw [if_pos (by decide), Wo_some]; rfl
theorem r_look {μ ν : Mem} (h : REL μ ν) (z0 : Int32) (z1 : Int32) : ∃ (r : Int32), fX11_look z0 z1 μ = some r ∧ fX12_look z0 z1 ν = some r ∧ REL μ ν := by
  have h' := h
  obtain ⟨w, L, R, a1, a2, a3, a4, a5, a6, a7, a8, ⟨t, t1, t2, t3, t4⟩, a10, a11, a12⟩ := h'
  have hn := a2.1
  have hT : ∀ i, i < t → ∃ m, m < 4 ∧ ν.1 44 i = nI m := fun i hi => by obtain ⟨m, hm, _, e, _⟩ := t4 i hi; exact ⟨m, hm, e⟩
  unfold fX11_look fX12_look
  rw [t2, t3, in_c, b1_some]
  by_cases c0 : z0 < 0
  · rw [if_pos c0, if_pos (Or.inl c0), if_pos rfl]; exact ⟨_, rfl, rfl, h⟩
  · rw [if_neg c0]
    by_cases c1 : nI t < z0
    · rw [if_pos c1, if_pos (Or.inr c1), if_pos rfl]; exact ⟨_, rfl, rfl, h⟩
    · rw [if_neg c1, if_neg (show ¬ (z0 < 0 ∨ nI t < z0) from fun hx => hx.elim c0 c1), if_neg n10, in_c, b1_some]
      obtain ⟨k, hk, rfl⟩ := nI_of c0
      rw [nI_ltI (by omega) (by omega)] at c1
      by_cases c2 : z1 < 0
      · rw [if_pos c2, if_pos (Or.inl c2), if_pos rfl]; exact ⟨_, rfl, rfl, h⟩
      · rw [if_neg c2]
        by_cases c3 : z1 ≤ 999
        · rw [if_pos c3, if_neg (show ¬ (z1 < 0 ∨ 999 < z1) by grind), if_neg n10]
          have hx : wh w R ν k < 64 := bt_64 _ hn
          by_cases c4 : wh w R ν k = 0
          · refine rel_p h (-2) ?_ ?_
            · rw [Wo_b1]
              refine Wo_mono (fitting_c a2 a5 t1 t4 (by omega)) ?_
              rintro r rfl
              rw [c4, if_pos nI_0, Wo_some]
            · rw [Wo_b1]
              refine Wo_mono (whoseBits_m a3 a6 t1 hT (by omega)) ?_
              rintro r rfl
              rw [c4]
              unfold FU
              show Wo (fX12_look_s41 _ _ _ _ _ _ _) _
              unfold fX12_look_s41
              rw [if_neg (by decide), if_pos nI_0, Wo_some]
          · refine rel_p h (oI (alF (fun _ => true) (lw w R z1 (wh w R ν k)) 4)) ?_ ?_
            · rw [Wo_b1]
              refine Wo_mono (fitting_c a2 a5 t1 t4 (by omega)) ?_
              rintro r rfl
              rw [if_neg (by simp (disch := omega) only [L_add, L_add2, L_mul, L_mul2, L_sub, nI_add, pk_mul, pk_sub, L_le, L_le2, L_lt, L_lt2, L_eq, L_eq2, nI_leI, nI_ltI, nI_eq, nI_clamp, ix_nI, ix_lit, L_cl]; exact c4), Wo_b1]
              exact Wo_mono (best_c a5.1 hn (bt_lt _ _)) (fun r hr => by rw [Wo_some]; exact hr)
            · rw [Wo_b1]
              refine Wo_mono (whoseBits_m a3 a6 t1 hT (by omega)) ?_
              rintro r rfl
              exact look_m a3 a6 hx c4
        · rw [if_neg c3, if_pos (show z1 < 0 ∨ 999 < z1 by grind), if_pos rfl]; exact ⟨_, rfl, rfl, h⟩
