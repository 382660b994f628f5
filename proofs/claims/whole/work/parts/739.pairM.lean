theorem andnD : ∀ x : Fin 64, ∀ h : Fin 6, x.1.testBit h.1 = true → nI x.1 &&& (((1 : Int32) <<< (nI h.1 &&& 31)) ^^^ (-1)) = nI (x.1 ^^^ 2 ^ h.1) := by decide +kernel
theorem andn {x h : Nat} (hx : x < 64) (hh : h < 6) (hb : x.testBit h = true) : nI x &&& (((1 : Int32) <<< (nI h &&& 31)) ^^^ (-1)) = nI (x ^^^ 2 ^ h) := andnD ⟨x, hx⟩ ⟨h, hh⟩ hb
theorem xltD : ∀ x : Fin 64, ∀ h : Fin 6, x.1.testBit h.1 = true → x.1 ^^^ 2 ^ h.1 < x.1 := by decide +kernel
theorem xlt {x h : Nat} (hx : x < 64) (hh : h < 6) (hb : x.testBit h = true) : x ^^^ 2 ^ h < x := xltD ⟨x, hx⟩ ⟨h, hh⟩ hb
/-- the lowest house of a set -/
def Low (n x a : Nat) : Prop := a < n ∧ x.testBit a = true ∧ ∀ i, i < a → x.testBit i = false
theorem low_ex {n x : Nat} (hx : x < 2 ^ n) (h0 : x ≠ 0) : ∃ a, Low n x a := by
  have h1 : ∃ i, x.testBit i = true := by
    apply Classical.byContradiction
    intro hne
    apply h0
    apply Nat.eq_of_testBit_eq
    intro i
    rw [Nat.zero_testBit]
    cases hb : x.testBit i with
    | false => rfl
    | true => exact absurd ⟨i, hb⟩ hne
  obtain ⟨a, h2, h3⟩ := pk_least (fun i => x.testBit i = true) h1
  refine ⟨a, ?_, h2, fun i hi => by have := h3 i hi; simpa using this⟩
  rcases Nat.lt_or_ge a n with h | h
  · exact h
  · have := tb_hi hx h
    rw [h2] at this
    cases this
theorem lowest_m {n x a : Nat} (hn : n ≤ 6) (hx : x < 2 ^ n) (hl : Low n x a) : Wo (fX12_lowestOf (nI x)) (fun r => r = nI a) := by
  have hx6 := lt64 hx hn
  have ha := hl.1
  unfold fX12_lowestOf
  refine lp0 (σ := Unit) (fun n' y _ => fX12_lowestOf_l2 (nI x) n' y) a (by omega) (fun _ _ => True) _ () trivial ?_ ?_
  · rintro n' i _ hi _ hrec
    show Wo (fX12_lowestOf_s2 _ _ _) _
    unfold fX12_lowestOf_s2
    rw [B_bit hx6 (by omega), hl.2.2 i hi, nI_1]
    rw [if_neg (show ¬ false = true by decide), if_pos rfl]
    exact hrec () trivial
  · rintro n' _ _
    show Wo (fX12_lowestOf_s2 _ _ _) _
    unfold fX12_lowestOf_s2
    rw [B_bit hx6 (by omega), hl.2.1, if_pos rfl, if_neg n10, Wo_some]
theorem skip_v {R : Rw} {n m x : Nat} (hB : Bx n m x) (k : Nat) (hk : m + k ≤ n) : pvS R n (m + k) x = pvS R n m x := by
  induction k with
  | zero => rfl
  | succ k ih =>
    rw [show m + (k + 1) = (m + k) + 1 by omega, pvS_f (hB.2 _ (by omega))]
    exact ih (by omega)
theorem skip_w {R : Rw} {n m x i : Nat} (hB : Bx n m x) (k : Nat) (hk : m + k ≤ n) : pwS R n (m + k) x i = pwS R n m x i := by
  induction k with
  | zero => rfl
  | succ k ih =>
    rw [show m + (k + 1) = (m + k) + 1 by omega, pwS_f (hB.2 _ (by omega))]
    exact ih (by omega)
theorem full_v {R : Rw} {n m x : Nat} (hB : Bx n m x) (hm : m ≤ n) : pvS R n n x = pvS R n m x := by
  have := @skip_v R n m x hB (n - m) (by omega)
  rw [show m + (n - m) = n by omega] at this
  exact this
theorem full_w {R : Rw} {n m x i : Nat} (hB : Bx n m x) (hm : m ≤ n) : pwS R n n x i = pwS R n m x i := by
  have := @skip_w R n m x i hB (n - m) (by omega)
  rw [show m + (n - m) = n by omega] at this
  exact this
theorem Low_Bx {n x a m : Nat} (hx : x < 2 ^ n) (hl : Low n x a) (hm : a + (m + 1) = n) : Bx n (m + 1) x := ⟨hx, fun i hi => hl.2.2 i (by omega)⟩
/-- the model's value of a set -/
def FFp (R : Rw) (n x : Nat) : Int32 := pvS R n n x - nI (10000 * (pcn x / 2))
def vN (R : Rw) (n m x o : Nat) : Nat := (gP R n m x o).toNatClampNeg
theorem vN_g {w : Kw} {R : Rw} {n m x o : Nat} (hR : RG w R) (hn : n ≤ 6) (hm : m + 1 ≤ n) (hB : Bx n (m + 1) x) (hb : x.testBit (n - (m + 1)) = true) (hp : pP n m x o = true) : vN R n m x o ≤ 5994 ∧ gP R n m x o = nI (vN R n m x o) := by
  obtain ⟨v, hv, ev⟩ := gP_nI hR hn hm hB hb hp
  have := pc_le hn hB.1
  unfold vN
  rw [ev, nI_clamp (by omega)]
  exact ⟨by omega, rfl⟩
theorem dI_le {v v' c : Nat} (h : v ≤ 100000) (h' : v' ≤ 100000) (hc : c ≤ 100000) : nI v - nI c ≤ nI v' - nI c ↔ v ≤ v' := by
  rw [Int32.le_iff_toInt_le, pk_sub_toInt (by omega) (by omega), pk_sub_toInt (by omega) (by omega)]; omega
theorem dI_eq {v v' c : Nat} (h : v ≤ 100000) (h' : v' ≤ 100000) (hc : c ≤ 100000) : nI v - nI c = nI v' - nI c ↔ v = v' := by
  constructor
  · intro hx
    have h1 := (dI_le (c := c) h h' hc).mp (by rw [hx]; grind)
    have h2 := (dI_le (c := c) h' h hc).mp (by rw [hx]; grind)
    omega
  · intro hx; rw [hx]
theorem FF_rest_o {w : Kw} {R : Rw} {n m x o : Nat} (hR : RG w R) (hn : n ≤ 6) (hm : m + 1 ≤ n) (hB : Bx n (m + 1) x) (hb : x.testBit (n - (m + 1)) = true) (ho : o < n) (hp : pP n m x o = true) : (ul R (n - (m + 1)) o - 10000) + FFp R n (x ^^^ 2 ^ (n - (m + 1)) ^^^ 2 ^ o) = nI (vN R n m x o) - nI (10000 * (pcn x / 2)) := by
  have hp2 := hp
  unfold pP at hp2
  rw [if_pos ho] at hp2
  simp at hp2
  have h1 := pc_2 hn hm hB hb ho hp2.2 hp2.1
  have h2 := (vN_g hR hn hm hB hb hp).2
  have h3 : nI (10000 * (pcn x / 2)) = nI (10000 * (pcn (x ^^^ 2 ^ (n - (m + 1)) ^^^ 2 ^ o) / 2)) + 10000 := by
    rw [show pcn x / 2 = pcn (x ^^^ 2 ^ (n - (m + 1)) ^^^ 2 ^ o) / 2 + 1 by omega, Nat.mul_add, ← nI_add]; rfl
  rw [← h2, h3]
  unfold FFp gP
  rw [if_pos ho, full_v (Bx_2 hm hB hb ho hp2.2) (by omega)]
  grind
/-- what it comes to if the lowest stays alone -/
def v0N (R : Rw) (n m x : Nat) : Nat := if pcn x % 2 = 1 then vN R n m x n else (pvS R n m (x ^^^ 2 ^ (n - (m + 1)))).toNatClampNeg + 10000
theorem FF_rest_0 {w : Kw} {R : Rw} {n m x : Nat} (hR : RG w R) (hn : n ≤ 6) (hm : m + 1 ≤ n) (hB : Bx n (m + 1) x) (hb : x.testBit (n - (m + 1)) = true) : FFp R n (x ^^^ 2 ^ (n - (m + 1))) = nI (v0N R n m x) - nI (10000 * (pcn x / 2)) ∧ v0N R n m x ≤ 20000 ∧ (pcn x % 2 = 0 → 10000 ≤ v0N R n m x) := by
  have h1 := pc_xor hn hB.1 (show n - (m + 1) < n by omega) hb
  have hle := pc_le hn hB.1
  obtain ⟨v, hv, ev⟩ := pvS_nI hR hn (show m ≤ n by omega) (Bx_1 hm hB hb)
  unfold FFp v0N
  rw [full_v (Bx_1 hm hB hb) (by omega)]
  by_cases hp : pcn x % 2 = 1
  · rw [if_pos hp]
    have h2 := vN_g hR hn hm hB hb (o := n) (by unfold pP; rw [if_neg (by omega), hp]; rfl)
    refine ⟨?_, by omega, fun hx => by omega⟩
    rw [← h2.2, show pcn (x ^^^ 2 ^ (n - (m + 1))) / 2 = pcn x / 2 by omega]
    unfold gP
    rw [if_neg (by omega)]
  · rw [if_neg hp, ev, nI_clamp (by omega)]
    refine ⟨?_, by omega, fun _ => by omega⟩
    have h3 : nI (10000 * (pcn x / 2)) = nI (10000 * (pcn (x ^^^ 2 ^ (n - (m + 1))) / 2)) + 10000 := by
      rw [show pcn x / 2 = pcn (x ^^^ 2 ^ (n - (m + 1))) / 2 + 1 by omega, Nat.mul_add, ← nI_add]; rfl
    rw [h3, ← nI_add, show nI 10000 = 10000 from rfl]
    grind
theorem FF_x {w : Kw} {R : Rw} {n m x : Nat} (hR : RG w R) (hn : n ≤ 6) (hm : m + 1 ≤ n) (hB : Bx n (m + 1) x) (hb : x.testBit (n - (m + 1)) = true) : FFp R n x = nI (vN R n m x (cP R n m x)) - nI (10000 * (pcn x / 2)) := by
  unfold FFp
  rw [full_v hB hm, pvS_s hn hm hB hb, (vN_g hR hn hm hB hb (cP_al (R := R) hn hm hB hb).2.1).2]
/-- the least of all is what the class picks -/
theorem FF_min {w : Kw} {R : Rw} {n m x mm : Nat} (hR : RG w R) (hn : n ≤ 6) (hm : m + 1 ≤ n) (hB : Bx n (m + 1) x) (hb : x.testBit (n - (m + 1)) = true) (h0 : mm ≤ v0N R n m x) (h1 : mm = v0N R n m x ∨ ∃ o, o < n ∧ pP n m x o = true ∧ mm = vN R n m x o) (h2 : ∀ o, o < n → pP n m x o = true → mm ≤ vN R n m x o) : mm = vN R n m x (cP R n m x) := by
  obtain ⟨e1, e2, e3⟩ := cP_al (R := R) hn hm hB hb
  have hv := vN_g hR hn hm hB hb e2
  obtain ⟨f1, f2⟩ := al_firstF e1
  obtain ⟨_, z1, z2⟩ := FF_rest_0 hR hn hm hB hb
  have key : ∀ o, o < n + 1 → pP n m x o = true → vN R n m x (cP R n m x) ≤ vN R n m x o := by
    intro o ho hp
    have h3 := f1 o ho hp
    have h4 := vN_g hR hn hm hB hb hp
    rw [hv.2, h4.2, nI_leI (by omega) (by omega)] at h3
    exact h3
  have hle : mm ≤ vN R n m x (cP R n m x) := by
    by_cases hc : cP R n m x < n
    · exact h2 _ hc e2
    · have hcn : cP R n m x = n := by omega
      rw [hcn] at e2 ⊢
      unfold pP at e2
      rw [if_neg (by omega)] at e2
      have hodd : pcn x % 2 = 1 := by simpa using e2
      have : v0N R n m x = vN R n m x n := by unfold v0N; rw [if_pos hodd]
      omega
  have hge : vN R n m x (cP R n m x) ≤ mm := by
    rcases h1 with h1 | ⟨o, ho, hp, h1⟩
    · by_cases hodd : pcn x % 2 = 1
      · have e : v0N R n m x = vN R n m x n := by unfold v0N; rw [if_pos hodd]
        have := key n (by omega) (by unfold pP; rw [if_neg (by omega), hodd]; rfl)
        omega
      · have := z2 (by omega); omega
    · have := key o (by omega) hp; omega
  omega
theorem pairedWith_m {w : Kw} {L : Nat} {ν : Mem} {R : Rw} {m x o : Nat} (hQ : QL w L ν) (hN : NR ν R) (hR : RG w R) (hm : m + 1 ≤ kn w) (hB : Bx (kn w) (m + 1) x) (hb : x.testBit (kn w - (m + 1)) = true) (ho : o < kn w) (hp : pP (kn w) m x o = true) (ht : ∀ y, y < x → ν.1 43 y = FFp R (kn w) y) : fX12_pairedWith (nI (kn w - (m + 1))) (nI o) (nI (x ^^^ 2 ^ (kn w - (m + 1)))) ν = some (nI (vN R (kn w) m x o) - nI (10000 * (pcn x / 2))) := by
  have hn := hQ.2.1
  have hp2 := hp
  unfold pP at hp2
  rw [if_pos ho] at hp2
  simp at hp2
  have hx6 := lt64 hB.1 hn
  have hr6 := lt64 (xor_lt hB.1 (show kn w - (m + 1) < kn w by omega)) hn
  have hne : ¬ kn w - (m + 1) = o := by omega
  have hbo : (x ^^^ 2 ^ (kn w - (m + 1))).testBit o = true := by rw [tb_xor, hp2.1]; simp [hne]
  have l1 := xlt hx6 (show kn w - (m + 1) < 6 by omega) hb
  have l2 := xlt hr6 (show o < 6 by omega) hbo
  unfold fX12_pairedWith
  rw [unlike_m hN hR (by omega) (by omega), b1_some, andn hr6 (by omega) hbo, ix_nI (by omega) (by omega), gd_true, nI_clamp (by omega), ht _ (by omega), FF_rest_o hR hn hm hB hb ho hp]
theorem fill49_m {w : Kw} {L : Nat} {ν : Mem} {R : Rw} {m x : Nat} {K : Mem → Option Mem} {Q : Mem → Prop} (hQ : QL w L ν) (hN : NR ν R) (hR : RG w R) (hm : m + 1 ≤ kn w) (hB : Bx (kn w) (m + 1) x) (hb : x.testBit (kn w - (m + 1)) = true) (ht : ∀ y, y < x → ν.1 43 y = FFp R (kn w) y) (h0 : ν.1 43 x = FFp R (kn w) (x ^^^ 2 ^ (kn w - (m + 1)))) (hk : ∀ s, (∀ y, y < x + 1 → s.1 43 y = FFp R (kn w) y) → (∀ j, j ≠ 43 → s.1 j = ν.1 j) → s.2 = ν.2 → Wo (K s) Q) : Wo (fX12_fillsPaired_l49 K (nI x) (nI (kn w - (m + 1))) (nI (x ^^^ 2 ^ (kn w - (m + 1)))) FU (nI (kn w - (m + 1) + 1)) ν) Q := by
  have hn := hQ.2.1
  have hx6 := lt64 hB.1 hn
  have hr6 := lt64 (xor_lt hB.1 (show kn w - (m + 1) < kn w by omega)) hn
  have hle := pc_le hn hB.1
  obtain ⟨z0, z1, z2⟩ := FF_rest_0 hR hn hm hB hb
  refine lpU (fun n' y s => fX12_fillsPaired_l49 K (nI x) (nI (kn w - (m + 1))) (nI (x ^^^ 2 ^ (kn w - (m + 1)))) n' y s) (kn w) (fun b s => kn w - (m + 1) < b ∧ (∃ mm, s.1 43 x = nI mm - nI (10000 * (pcn x / 2)) ∧ mm ≤ v0N R (kn w) m x ∧ (mm = v0N R (kn w) m x ∨ ∃ o, o < b ∧ pP (kn w) m x o = true ∧ mm = vN R (kn w) m x o) ∧ ∀ o, o < b → pP (kn w) m x o = true → mm ≤ vN R (kn w) m x o) ∧ (∀ y, y < x → s.1 43 y = FFp R (kn w) y) ∧ (∀ j, j ≠ 43 → s.1 j = ν.1 j) ∧ s.2 = ν.2) _ ?_ ?_ FU (kn w - (m + 1) + 1) ν (by omega) (by unfold FU; omega) ⟨by omega, ⟨v0N R (kn w) m x, by rw [h0, z0], Nat.le_refl _, Or.inl rfl, fun o ho hp => ?_⟩, ht, fun _ _ => rfl, rfl⟩
  · rintro n' b s hb2 ⟨hlt, ⟨mm, i1, i2, i3, i4⟩, i5, i6, i7⟩ hrec
    have hQ1 : QL w L s := QL_fr hQ (fun j _ _ => i6 j (by omega)) (by rw [i6 0 (by omega)])
    have hN1 : NR s R := NR_fr hN (i6 31 (by omega))
    show Wo (fX12_fillsPaired_s49 _ _ _ _ _ _ _) _
    unfold fX12_fillsPaired_s49
    rw [many_m hQ1, b1_some, if_neg (by rw [nI_leI (by omega) (by omega)]; omega), B_bit hr6 (by omega), nI_1]
    have hne : ¬ kn w - (m + 1) = b := by omega
    have hbb : (x ^^^ 2 ^ (kn w - (m + 1))).testBit b = x.testBit b := by rw [tb_xor]; simp [hne]
    have hpb : pP (kn w) m x b = x.testBit b := by
      unfold pP
      rw [if_pos hb2]
      simp [hlt]
    rw [hbb]
    by_cases hx : x.testBit b = true
    · have hpt : pP (kn w) m x b = true := by rw [hpb]; exact hx
      have hvb := (vN_g hR hn hm hB hb hpt).1
      rw [if_pos hx, if_pos rfl, pairedWith_m hQ1 hN1 hR hm hB hb hb2 hpt i5, b1_some, ix_nI (by omega) (by omega), gd_true, nI_clamp (by omega), i1, b1_some, gd_true, bd_eq]
      refine Wo_if (fun hc => ?_) (fun hc => ?_)
      · rw [dI_le (by omega) (by omega) (by omega)] at hc
        refine hrec s ⟨by omega, ⟨mm, i1, i2, ?_, fun o ho hp => ?_⟩, i5, i6, i7⟩
        · rcases i3 with h | ⟨o, a1, a2, a3⟩
          · exact Or.inl h
          · exact Or.inr ⟨o, by omega, a2, a3⟩
        · by_cases he : o = b
          · subst he; exact hc
          · exact i4 o (by omega) hp
      · rw [dI_le (by omega) (by omega) (by omega)] at hc
        refine hrec _ ⟨by omega, ⟨vN R (kn w) m x b, rd_Is, by omega, Or.inr ⟨b, by omega, hpt, rfl⟩, fun o ho hp => ?_⟩, fun y hy => by rw [rd_Ik (by omega)]; exact i5 y hy, fun j hj => by rw [rd_Ii hj]; exact i6 j hj, i7⟩
        by_cases he : o = b
        · subst he; exact Nat.le_refl _
        · have := i4 o (by omega) hp; omega
    · rw [if_neg hx, if_neg (by decide)]
      refine hrec s ⟨by omega, ⟨mm, i1, i2, ?_, fun o ho hp => ?_⟩, i5, i6, i7⟩
      · rcases i3 with h | ⟨o, a1, a2, a3⟩
        · exact Or.inl h
        · exact Or.inr ⟨o, by omega, a2, a3⟩
      · by_cases he : o = b
        · subst he; rw [hpb] at hp; exact absurd hp hx
        · exact i4 o (by omega) hp
  · rintro n' s ⟨hlt, ⟨mm, i1, i2, i3, i4⟩, i5, i6, i7⟩
    have hQ1 : QL w L s := QL_fr hQ (fun j _ _ => i6 j (by omega)) (by rw [i6 0 (by omega)])
    show Wo (fX12_fillsPaired_s49 _ _ _ _ _ _ _) _
    unfold fX12_fillsPaired_s49
    rw [many_m hQ1, b1_some, if_pos (by rw [nI_leI (by omega) (by omega)]; omega)]
    refine hk s (fun y hy => ?_) i6 i7
    by_cases he : y = x
    · subst he
      rw [i1, FF_x hR hn hm hB hb, FF_min hR hn hm hB hb i2 i3 i4]
    · exact i5 y (by omega)
  · unfold pP at hp
    rw [if_pos (by omega)] at hp
    simp at hp
    omega
theorem fillsP_m {w : Kw} {L : Nat} {ν : Mem} {R : Rw} (hQ : QL w L ν) (hN : NR ν R) (hR : RG w R) : Wo (fX12_fillsPaired ν) (fun s => (∀ y, y < 2 ^ kn w → s.1 43 y = FFp R (kn w) y) ∧ (∀ j, j ≠ 43 → s.1 j = ν.1 j) ∧ s.2 = ν.2) := by
  have hn := hQ.2.1
  have hp : 2 ^ kn w ≤ 2 ^ 6 := Nat.pow_le_pow_right (by omega) hn
  have hp0 : 1 ≤ 2 ^ kn w := Nat.pow_pos (by omega)
  unfold fX12_fillsPaired
  rw [bd_eq]
  refine lpU (fun n' y s => fX12_fillsPaired_l9 n' y s) (2 ^ kn w) (fun x s => 1 ≤ x ∧ (∀ y, y < x → s.1 43 y = FFp R (kn w) y) ∧ (∀ j, j ≠ 43 → s.1 j = ν.1 j) ∧ s.2 = ν.2) _ ?_ ?_ FU 1 (upI ν 43 0 0) hp0 (by unfold FU; omega) ⟨by omega, fun y hy => ?_, fun j hj => rd_Ii hj, rfl⟩
  · rintro n' x s hx ⟨hx1, i1, i2, i3⟩ hrec
    have hQ1 : QL w L s := QL_fr hQ (fun j _ _ => i2 j (by omega)) (by rw [i2 0 (by omega)])
    have hx6 := lt64 hx hn
    obtain ⟨a, hl⟩ := low_ex hx (by omega)
    have hla := hl.1
    obtain ⟨m, hm⟩ : ∃ m, a + (m + 1) = kn w := ⟨kn w - a - 1, by omega⟩
    have ea : a = kn w - (m + 1) := by omega
    have hB := Low_Bx hx hl hm
    subst ea
    have hb := hl.2.1
    have l1 := xlt hx6 (show kn w - (m + 1) < 6 by omega) hb
    show Wo (fX12_fillsPaired_s9 _ _ _) _
    unfold fX12_fillsPaired_s9
    rw [many_m hQ1, b1_some, B_shl (by omega), if_neg (by rw [nI_leI (by omega) (by omega)]; omega), Wo_b1]
    refine Wo_mono (lowest_m hn hx hl) ?_
    rintro r rfl
    rw [andn hx6 (by omega) hb, bd_eq, ix_nI (by omega) (by omega), gd_true, ix_nI (by omega) (by omega), gd_true, bd_eq, bd_eq, nI_clamp (by omega), nI_clamp (by omega), nI_1 (kn w - (m + 1))]
    refine fill49_m (R := R) (QL_fr hQ1 (fun j _ _ => rd_Ii (by omega)) (by rw [rd_Ii (by omega)])) (NR_fr hN (by rw [rd_Ii (by omega), i2 31 (by omega)])) hR (by omega) hB hb (fun y hy => by rw [rd_Ik (by omega)]; exact i1 y hy) (by rw [rd_Is]; exact i1 _ l1) ?_
    intro s2 j1 j2 j3
    rw [nI_1]
    exact hrec s2 ⟨by omega, j1, fun j hj => by rw [j2 j hj, rd_Ii hj]; exact i2 j hj, j3.trans i3⟩
  · rintro n' s ⟨hx1, i1, i2, i3⟩
    have hQ1 : QL w L s := QL_fr hQ (fun j _ _ => i2 j (by omega)) (by rw [i2 0 (by omega)])
    show Wo (fX12_fillsPaired_s9 _ _ _) _
    unfold fX12_fillsPaired_s9
    rw [many_m hQ1, b1_some, B_shl (by omega), if_pos (by rw [nI_leI (by omega) (by omega)]; omega), Wo_some]
    exact ⟨i1, i2, i3⟩
  · rw [show y = 0 by omega, rd_Is]
    unfold FFp
    have hB0 : Bx (kn w) 0 0 := ⟨Nat.pow_pos (by omega), fun i _ => Nat.zero_testBit i⟩
    rw [full_v hB0 (by omega), show pcn 0 = 0 from by decide]
    show (0 : Int32) = 0 - nI (10000 * (0 / 2))
    decide
