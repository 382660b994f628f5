theorem r_round {μ ν : Mem} (h : REL μ ν) (z0 : Int32) : ∃ (r : Int32) (μ' : Mem) (ν' : Mem), fX11_round z0 μ = some (r, μ') ∧ fX12_round z0 ν = some (r, ν') ∧ REL μ' ν' := by
  have h' := h
  obtain ⟨w, L, R, a1, a2, a3, a4, a5, a6, a7, a8, a9, a10, a11, a12⟩ := h'
  have hn := a2.1
  unfold fX11_round fX12_round
  rcases house_cases a2 a3 z0 with ⟨e1, e2⟩ | ⟨k, hk, rfl, e1, e2⟩
  · rw [e1, e2, b1_some, b1_some, if_pos rfl, if_pos rfl]; exact ⟨_, _, _, rfl, rfl, h⟩
  · rw [e1, e2, b1_some, b1_some, if_neg n10, if_neg n10]
    have hx : 2 ^ k < 2 ^ kn w := Nat.pow_lt_pow_right (by omega) hk
    have hx6 := lt64 hx hn
    refine rel_of h (rst w (kn w - 1) (2 ^ k) k) ?_ ?_
    · rw [Wo_b1]
      refine Wo_mono (search_c a1 a2 hk) ?_
      rintro s ⟨k1, k2, k3⟩
      rw [Wo_some]
      exact ⟨k2, k1⟩
    · rw [Wo_b1]
      refine Wo_mono (rest_m a1 a3) ?_
      rintro s ⟨k1, k2, k3⟩
      rw [B_shl (by omega), L_mul2, nI_add, ix_nI (by omega) (by omega), gd_true, nI_clamp (by omega), Wo_some]
      have := k1 (2 ^ k) hx k hk
      rw [pcn_pow (by omega)] at this
      exact ⟨this, fun j a b c d => k2 j (by omega), fun i _ _ _ => by dsimp only; rw [k2 0 (by omega)], k3⟩
/-- where the way has come after k steps -/
def wyS (w : Kw) : Nat → Nat → Nat → Nat → Nat × Nat
  | 0, x, h, _ => (x, h)
  | _ + 1, x, h, 0 => (x, h)
  | m + 1, x, h, k + 1 => wyS w m (x ||| 2 ^ nx w m x h) (nx w m x h) k
theorem wyS_0 {w : Kw} {m x h : Nat} : wyS w m x h 0 = (x, h) := by cases m <;> rfl
theorem wyS_s {w : Kw} {m : Nat} : ∀ {x h k : Nat}, k < m → wyS w m x h (k + 1) = ((wyS w m x h k).1 ||| 2 ^ nx w (m - k - 1) (wyS w m x h k).1 (wyS w m x h k).2, nx w (m - k - 1) (wyS w m x h k).1 (wyS w m x h k).2) := by
  induction m with
  | zero => intro x h k hk; omega
  | succ m ih =>
    intro x h k hk
    cases k with
    | zero =>
      rw [wyS_0]
      show wyS w m (x ||| 2 ^ nx w m x h) (nx w m x h) 0 = _
      rw [wyS_0]; rfl
    | succ k =>
      show wyS w m (x ||| 2 ^ nx w m x h) (nx w m x h) (k + 1) = _
      rw [ih (by omega), show m + 1 - (k + 1) - 1 = m - k - 1 by omega]; rfl
theorem pth_wyS {w : Kw} {m : Nat} : ∀ {x h k : Nat}, k < m → pth w m x h k = (wyS w m x h (k + 1)).2 := by
  induction m with
  | zero => intro x h k hk; omega
  | succ m ih =>
    intro x h k hk
    cases k with
    | zero =>
      show nx w m x h = (wyS w m (x ||| 2 ^ nx w m x h) (nx w m x h) 0).2
      rw [wyS_0]
    | succ k => exact ih (by omega)
theorem wyS_ok {w : Kw} (hK : KZ w) {m x h k : Nat} (hx : x < 2 ^ kn w) (hh : h < kn w) (hp : pcn x + m = kn w) (hk : k ≤ m) : (wyS w m x h k).1 < 2 ^ kn w ∧ (wyS w m x h k).2 < kn w ∧ pcn (wyS w m x h k).1 = pcn x + k := by
  have hn := hK.1.1
  induction k with
  | zero => rw [wyS_0]; exact ⟨hx, hh, rfl⟩
  | succ k ih =>
    obtain ⟨h1, h2, h3⟩ := ih (by omega)
    obtain ⟨e1, e2, e3⟩ := @nx_al w (m - k - 1) (wyS w m x h k).1 (wyS w m x h k).2 hn h1 (by omega)
    rw [wyS_s (by omega)]
    refine ⟨or_lt h1 e2, e2, ?_⟩
    dsimp only
    rw [pc_or hn h1 e2 e3, h3]; omega
theorem next47_m {w : Kw} {L : Nat} {ν : Mem} {x h m : Nat} {K : Int32 → Option (Int32 × Mem)} {Q : Int32 × Mem → Prop} (hK : KZ w) (hQ : QL w L ν) (ht : ∀ x, x < 2 ^ kn w → RT w ν x) (hx : x < 2 ^ kn w) (hh : h < kn w) (hp : pcn x + (m + 1) = kn w) (hk : Wo (K (nI (nx w m x h))) Q) : Wo (fX12_next_l47 K (nI x) (nI h) ν FU 0) Q := by
  have hn := hQ.2.1
  have hx6 := lt64 hx hn
  obtain ⟨e1, e2, e3⟩ := @nx_al w m x h hn hx (by omega)
  obtain ⟨f1, f2⟩ := al_firstF e1
  have e39 : ν.1 39 (6 * x + h) = cR w m x h (nx w m x h) := by
    rw [ht x hx h hh, show kn w - pcn x = m + 1 by omega, rst_s hn hx (by omega)]
  refine lp0 (σ := Unit) (fun n' y _ => fX12_next_l47 K (nI x) (nI h) ν n' y) (nx w m x h) (by omega) (fun _ _ => True) _ () trivial ?_ ?_
  · rintro n' i _ hi _ hrec
    show Wo (fX12_next_s47 _ _ _ _ _ _) _
    unfold fX12_next_s47
    rw [B_bit hx6 (by omega), nI_1]
    by_cases hb : x.testBit i = true
    · rw [if_pos hb, if_pos rfl]
      exact hrec () trivial
    · have hbf : x.testBit i = false := by simpa using hb
      rw [if_neg hb, if_neg (by decide), restWith_m (m := m) hK hQ hx hh (by omega) hbf hp (ht _ (or_lt hx (by omega))), b1_some, L_mul2, nI_add, ix_nI (by omega) (by omega), gd_true, nI_clamp (by omega), e39, if_neg]
      · exact hrec () trivial
      · intro hx2
        have := f2 i hi (by rw [hbf]; rfl)
        rw [hx2] at this
        exact this (by grind)
  · rintro n' _ _
    show Wo (fX12_next_s47 _ _ _ _ _ _) _
    unfold fX12_next_s47
    rw [B_bit hx6 (by omega), if_neg (show ¬ x.testBit (nx w m x h) = true by rw [e3]; decide), if_neg (by decide), restWith_m (m := m) hK hQ hx hh e2 e3 hp (ht _ (or_lt hx e2)), b1_some, L_mul2, nI_add, ix_nI (by omega) (by omega), gd_true, nI_clamp (by omega), e39, if_pos rfl]
    exact hk
theorem r_next {μ ν : Mem} (h : REL μ ν) (z0 : Int32) (z1 : Int32) : ∃ (r : Int32) (μ' : Mem) (ν' : Mem), fX11_next z0 z1 μ = some (r, μ') ∧ fX12_next z0 z1 ν = some (r, ν') ∧ REL μ' ν' := by
  have h' := h
  obtain ⟨w, L, R, a1, a2, a3, a4, a5, a6, a7, a8, a9, a10, a11, a12⟩ := h'
  have hn := a2.1
  unfold fX11_next fX12_next
  rcases house_cases a2 a3 z0 with ⟨e1, e2⟩ | ⟨k, hk, rfl, e1, e2⟩
  · rw [e1, e2, b1_some, b1_some, if_pos rfl, if_pos rfl]; exact ⟨_, _, _, rfl, rfl, h⟩
  · rw [e1, e2, b1_some, b1_some, if_neg n10, if_neg n10, many_m a3, b1_some]
    have ei : fX12_in z1 0 (nI (kn w) - 1) = fX12_in z1 0 (nI (kn w) - 1) := rfl
    have eh := @isHouse_m w L ν a3 z1
    have e3 : b1 (fX12_in z1 0 (nI (kn w) - 1)) (fun r6 => if r6 = 0 then some ((-1 : Int32), ν) else b1 (fX12_fillsRest ν) (fun μ8 => bd ((1 : Int32) <<< (nI k &&& 31)) (fun y9 => fX12_next_l38 z1 μ8 FU y9 (nI k) 0))) = b1 (fX12_isHouse z1 ν) (fun r6 => if r6 = 0 then some ((-1 : Int32), ν) else b1 (fX12_fillsRest ν) (fun μ8 => bd ((1 : Int32) <<< (nI k &&& 31)) (fun y9 => fX12_next_l38 z1 μ8 FU y9 (nI k) 0))) := by
      unfold fX12_isHouse
      rw [many_m a3, b1_some, in_c, b1_some, b1_some, b1_some]
      split <;> rfl
    rw [e3]
    rcases house_cases a2 a3 z1 with ⟨f1, f2⟩ | ⟨i, hi, rfl, f1, f2⟩
    · rw [f1, f2, b1_some, b1_some, if_pos rfl, if_pos rfl]; exact ⟨_, _, _, rfl, rfl, h⟩
    · rw [f1, f2, b1_some, b1_some, if_neg n10, if_neg n10]
      have hx : 2 ^ k < 2 ^ kn w := Nat.pow_lt_pow_right (by omega) hk
      have hx6 := lt64 hx hn
      have hp1 := pcn_pow (h := k) (by omega)
      refine rel_of h (nI (wyS w (kn w - 1) (2 ^ k) k i).2) ?_ ?_
      · rw [Wo_b1]
        refine Wo_mono (search_c a1 a2 hk) ?_
        rintro s ⟨k1, k2, k3⟩
        rw [ix_nI (by omega) (by omega), gd_true, nI_clamp (by omega), Wo_some]
        refine ⟨?_, k1⟩
        dsimp only
        rw [k3 i hi]
        by_cases h1 : i < 1
        · rw [if_pos h1, show i = 0 by omega, wyS_0]
        · rw [if_neg h1, pth_wyS (by omega), show i - 1 + 1 = i by omega]
      · rw [Wo_b1]
        refine Wo_mono (rest_m a1 a3) ?_
        rintro s ⟨k1, k2, k3⟩
        have hf : Fc ν s := ⟨fun j a b c d => k2 j (by omega), fun i _ _ _ => by rw [k2 0 (by omega)], k3⟩
        have hQs := QL_Fc a3 hf
        rw [bd_eq, B_shl (by omega)]
        refine lp0 (σ := Int32 × Int32) (fun n' y t => fX12_next_l38 (nI i) s n' t.1 t.2 y) i (by omega) (fun j t => t = (nI (wyS w (kn w - 1) (2 ^ k) k j).1, nI (wyS w (kn w - 1) (2 ^ k) k j).2)) _ (nI (2 ^ k), nI k) (by rw [wyS_0]) ?_ ?_
        · rintro n' j t hj rfl hrec
          obtain ⟨g1, g2, g3⟩ := @wyS_ok w a1 (kn w - 1) (2 ^ k) k j hx hk (by omega) (by omega)
          show Wo (fX12_next_s38 _ _ _ _ _ _) _
          unfold fX12_next_s38
          rw [if_neg (by simp (disch := omega) only [L_add, L_add2, L_mul, L_mul2, L_sub, nI_add, pk_mul, pk_sub, L_le, L_le2, L_lt, L_lt2, L_eq, L_eq2, nI_leI, nI_ltI, nI_eq, nI_clamp, ix_nI, ix_lit, L_cl]; omega)]
          refine next47_m (m := kn w - 1 - j - 1) a1 hQs k1 g1 g2 (by omega) ?_
          obtain ⟨_, n2, _⟩ := @nx_al w (kn w - 1 - j - 1) (wyS w (kn w - 1) (2 ^ k) k j).1 (wyS w (kn w - 1) (2 ^ k) k j).2 hn g1 (by omega)
          rw [bd_eq, nI_1, B_shl (by omega), B_or]
          exact hrec (_, _) (by rw [wyS_s (by omega)]; rfl)
        · rintro n' t rfl
          show Wo (fX12_next_s38 _ _ _ _ _ _) _
          unfold fX12_next_s38
          rw [if_pos (by simp (disch := omega) only [L_add, L_add2, L_mul, L_mul2, L_sub, nI_add, pk_mul, pk_sub, L_le, L_le2, L_lt, L_lt2, L_eq, L_eq2, nI_leI, nI_ltI, nI_eq, nI_clamp, ix_nI, ix_lit, L_cl]; omega), Wo_some]
          exact ⟨rfl, hf⟩
