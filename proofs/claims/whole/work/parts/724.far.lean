def fr (w : Kw) (h o : Nat) : Int32 := jabs (kx w h - kx w o) + jabs (ky w h - ky w o)
theorem off_m {a b : Int32} (ha : 0 ≤ a ∧ a ≤ 999) (hb : 0 ≤ b ∧ b ≤ 999) : fX12_off a b = some (jabs (a - b)) := by
  unfold fX12_off jabs
  by_cases h : b ≤ a
  · rw [if_pos h, if_pos (by grind)]
  · rw [if_neg h, if_neg (by grind)]
    congr 1; grind
theorem KZ_x {w : Kw} {h : Nat} (hK : KZ w) (hh : h < kn w) : (0 ≤ kx w h ∧ kx w h ≤ 999) ∧ (0 ≤ ky w h ∧ ky w h ≤ 999) := by
  have := hK.2.2.1 h hh
  refine ⟨⟨this.1.1, ?_⟩, ⟨this.2.1, ?_⟩⟩
  · have := this.1.2; grind
  · have := this.2.2; grind
theorem nlt0 {a : Int32} (h : 0 ≤ a) : ¬ a < 0 := by grind
theorem rng_nI {a M : Int32} {n : Nat} (hM : M.toInt = n) (h : 0 ≤ a ∧ a ≤ M) : ∃ j, j ≤ n ∧ a = nI j := nI_of2 hM (nlt0 h.1) h.2
theorem neg_sub0 (x y : Int32) : 0 - (x - y) = y - x := by grind
theorem jabs_nI {m k : Nat} (hm : m < 2 ^ 30) (hk : k < 2 ^ 30) : jabs (nI m - nI k) = nI ((m - k) + (k - m)) := by
  unfold jabs
  by_cases h : k ≤ m
  · rw [pk_sub h, if_pos (nI_pos' (by omega)), show m - k + (k - m) = m - k by omega]
  · have h1 := pk_sneg hk (show m < k by omega)
    have h2 : ¬ 0 ≤ nI m - nI k := by
      generalize nI m - nI k = x at h1
      grind
    rw [if_neg h2, neg_sub0, pk_sub (by omega), show m - k + (k - m) = k - m by omega]
theorem jabs_99 {a b : Int32} (ha : 0 ≤ a ∧ a ≤ 99) (hb : 0 ≤ b ∧ b ≤ 99) : 0 ≤ jabs (a - b) ∧ jabs (a - b) ≤ 99 := by
  obtain ⟨m, hm, rfl⟩ := rng_nI (n := 99) rfl ha
  obtain ⟨k, hk, rfl⟩ := rng_nI (n := 99) rfl hb
  rw [jabs_nI (by omega) (by omega)]
  exact ⟨nI_pos' (by omega), (L_le2 (by omega) (by omega)).mpr (by omega)⟩
theorem jabs_999 {a b : Int32} (ha : 0 ≤ a ∧ a ≤ 999) (hb : 0 ≤ b ∧ b ≤ 999) : 0 ≤ jabs (a - b) ∧ jabs (a - b) ≤ 999 := by
  obtain ⟨m, hm, rfl⟩ := rng_nI (n := 999) rfl ha
  obtain ⟨k, hk, rfl⟩ := rng_nI (n := 999) rfl hb
  rw [jabs_nI (by omega) (by omega)]
  exact ⟨nI_pos' (by omega), (L_le2 (by omega) (by omega)).mpr (by omega)⟩
theorem sum_99 {a b : Int32} (ha : 0 ≤ a ∧ a ≤ 99) (hb : 0 ≤ b ∧ b ≤ 99) : 0 ≤ a + b ∧ a + b ≤ 198 := by grind
theorem lt_mil {a : Int32} (h : a ≤ 198) : a < 1000000 := by grind
theorem sub64 {A B : Nat} (h : B < A) (h3 : A ≤ 2 ^ 6) : A - 1 - B < 64 := by omega
theorem fr_rng {w : Kw} {h o : Nat} (hK : KZ w) (hh : h < kn w) (ho : o < kn w) : 0 ≤ fr w h o ∧ fr w h o ≤ 198 :=
  sum_99 (jabs_99 (hK.2.2.1 h hh).1 (hK.2.2.1 o ho).1) (jabs_99 (hK.2.2.1 h hh).2 (hK.2.2.1 o ho).2)
theorem dist_c {w : Kw} {μ : Mem} {h o : Nat} (hQ : QC w μ) (hh : h < kn w) (ho : o < kn w) : fX3_distance 17 (nI h) (nI o) μ = some (fr w h o) := by
  unfold fX3_distance
  rw [xOf_c hQ hh, xOf_c hQ ho, yOf_c hQ hh, yOf_c hQ ho]; rfl
theorem farOf_m {w : Kw} {L : Nat} {ν : Mem} {h o : Nat} (hK : KZ w) (hQ : QL w L ν) (hh : h < kn w) (ho : o < kn w) : fX12_farOf (nI h) (nI o) ν = some (fr w h o) := by
  have hn := hQ.2.1
  have hL := hQ.1
  have h1 := KZ_x hK hh
  have h2 := KZ_x hK ho
  have e1 := (hQ.2.2.2.2.1 h hh).2
  have e2 := (hQ.2.2.2.2.1 o ho).2
  unfold fX12_farOf
  rw [hQ.2.2.1]
  simp (disch := omega) only [L_add, L_add2, L_mul, L_mul2, L_sub, nI_add, pk_mul, pk_sub, L_le, L_le2, L_lt, L_lt2, L_eq, L_eq2, nI_leI, nI_ltI, nI_eq, nI_clamp, ix_nI, ix_lit, L_cl, gd_true]
  rw [e1.1, e1.2, e2.1, e2.2, off_m h1.1 h2.1, off_m h1.2 h2.2]; rfl
theorem r_far {μ ν : Mem} (h : REL μ ν) (z0 : Int32) (z1 : Int32) : ∃ (r : Int32), fX11_far z0 z1 μ = some r ∧ fX12_far z0 z1 ν = some r ∧ REL μ ν := by
  have h' := h
  obtain ⟨w, L, R, a1, a2, a3, a4, a5, a6, a7, a8, a9, a10, a11, a12⟩ := h'
  unfold fX11_far fX12_far
  rcases house_cases a2 a3 z0 with ⟨e1, e2⟩ | ⟨k, hk, rfl, e1, e2⟩
  · rw [e1, e2, b1_some, b1_some, if_pos rfl, if_pos rfl]; exact ⟨_, rfl, rfl, h⟩
  · rw [e1, e2, b1_some, b1_some, if_neg n10, if_neg n10]
    rcases house_cases a2 a3 z1 with ⟨f1, f2⟩ | ⟨o, ho, rfl, f1, f2⟩
    · rw [f1, f2, b1_some, b1_some, if_pos rfl, if_pos rfl]; exact ⟨_, rfl, rfl, h⟩
    · rw [f1, f2, b1_some, b1_some, if_neg n10, if_neg n10, dist_c a2 hk ho, farOf_m a1 a3 hk ho]
      exact ⟨_, rfl, rfl, h⟩
theorem nearIn_m {w : Kw} {L : Nat} {ν : Mem} {h x : Nat} (hK : KZ w) (hQ : QL w L ν) (hh : h < kn w) (hx : x < 64) : Wo (fX12_nearestIn (nI h) (nI x) ν) (fun r => r = oI (alF x.testBit (fr w h) (kn w))) := by
  have hn := hQ.2.1
  unfold fX12_nearestIn
  refine lp0 (fun n' i s => fX12_nearestIn_l6 (nI h) (nI x) ν n' s i) (kn w) (by omega) (fun i s => s = oI (alF x.testBit (fr w h) i)) _ (-2) rfl ?_ ?_
  · rintro n' i s hi rfl hrec
    show Wo (fX12_nearestIn_s6 _ _ _ _ _ _) _
    unfold fX12_nearestIn_s6
    rw [many_m hQ, b1_some, if_neg (by simp (disch := omega) only [L_add, L_add2, L_mul, L_mul2, L_sub, nI_add, pk_mul, pk_sub, L_le, L_le2, L_lt, L_lt2, L_eq, L_eq2, nI_leI, nI_ltI, nI_eq, nI_clamp, ix_nI, ix_lit, L_cl]; omega), B_bit hx (by omega), nI_1]
    by_cases hb : x.testBit i = true
    · rw [if_pos hb, if_pos rfl]
      have e : alF x.testBit (fr w h) (i + 1) = (match alF x.testBit (fr w h) i with | none => some i | some b => if fr w h b ≤ fr w h i then some b else some i) := by
        show (if x.testBit i then _ else _) = _
        rw [if_pos hb]
        rfl
      cases ha : alF x.testBit (fr w h) i with
      | none =>
        rw [ha] at e
        rw [if_pos (by decide)]
        exact hrec _ (by rw [e]; rfl)
      | some b =>
        have hb2 := alF_lt ha
        rw [ha] at e
        rw [show oI (some b) = nI b from rfl, if_neg (nI_pos (by omega)), farOf_m hK hQ hh hi, b1_some, farOf_m hK hQ hh (by omega), b1_some]
        refine Wo_if (fun hc => ?_) (fun hc => ?_)
        · exact hrec _ (by rw [e]; dsimp only; rw [if_pos hc]; rfl)
        · exact hrec _ (by rw [e]; dsimp only; rw [if_neg hc]; rfl)
    · rw [if_neg hb, if_neg (by decide)]
      exact hrec _ (by rw [alF_stepF (by simpa using hb)])
  · rintro n' s rfl
    show Wo (fX12_nearestIn_s6 _ _ _ _ _ _) _
    unfold fX12_nearestIn_s6
    rw [many_m hQ, b1_some, if_pos (by simp (disch := omega) only [L_add, L_add2, L_mul, L_mul2, L_sub, nI_add, pk_mul, pk_sub, L_le, L_le2, L_lt, L_lt2, L_eq, L_eq2, nI_leI, nI_ltI, nI_eq, nI_clamp, ix_nI, ix_lit, L_cl]; omega), Wo_some]
theorem alF_ext {p q : Nat → Bool} {g g' : Nat → Int32} {n : Nat} (h : ∀ i, i < n → q i = p i) (hg : ∀ i, i < n → g' i = g i) : alF q g' n = alF p g n := by
  induction n with
  | zero => rfl
  | succ n ih =>
    have e := ih (fun i hi => h i (by omega)) (fun i hi => hg i (by omega))
    show (if q n then (match alF q g' n with | none => some n | some b => if g' b ≤ g' n then some b else some n) else alF q g' n) = (if p n then (match alF p g n with | none => some n | some b => if g b ≤ g n then some b else some n) else alF p g n)
    rw [h n (by omega), e, hg n (by omega)]
    cases ha : alF p g n with
    | none => rfl
    | some b => dsimp only; rw [hg b (by have := (alF_lt ha).1; omega)]
theorem maskD : ∀ n : Fin 7, ∀ h : Fin 6, ∀ i : Fin 6, h.1 < n.1 → i.1 < n.1 → (2 ^ n.1 - 1 - 2 ^ h.1).testBit i.1 = !(i.1 == h.1) := by decide +kernel
theorem near_c {w : Kw} {μ : Mem} {h : Nat} (hK : KZ w) (hQ : QC w μ) (hh : h < kn w) : Wo (fX11_nearest_l20 (nI h) μ FU (-2) 1000000 0) (fun r => r = oI (alF (fun i => !(i == h)) (fr w h) (kn w))) := by
  have hn := hQ.1
  refine lp0 (σ := Int32 × Int32) (fun n' i s => fX11_nearest_l20 (nI h) μ n' s.1 s.2 i) (kn w) (by omega) (fun i s => s = (oI0 (-2) (alF (fun i => !(i == h)) (fr w h) i), oV (fr w h) 1000000 (alF (fun i => !(i == h)) (fr w h) i))) _ (-2, 1000000) rfl ?_ ?_
  · rintro n' i s hi rfl hrec
    show Wo (fX11_nearest_s20 _ _ _ _ _ _) _
    unfold fX11_nearest_s20
    rw [hQ.2.1, if_neg (by simp (disch := omega) only [L_add, L_add2, L_mul, L_mul2, L_sub, nI_add, pk_mul, pk_sub, L_le, L_le2, L_lt, L_lt2, L_eq, L_eq2, nI_leI, nI_ltI, nI_eq, nI_clamp, ix_nI, ix_lit, L_cl]; omega), nI_1]
    by_cases he : i = h
    · subst he
      rw [if_pos rfl]
      refine hrec (_, _) ?_
      rw [alF_stepF (by simp)]
    · have hz := @alF_stepT (fun i => !(i == h)) (fr w h) 1000000 (-2) i (by simpa using he) (lt_mil (fr_rng hK hh hi).2)
      rw [if_neg (by rw [nI_eq (by omega) (by omega)]; exact he), dist_c hQ hh hi, b1_some, b1_some]
      refine Wo_if (fun hc => ?_) (fun hc => ?_)
      · rw [if_pos hc] at hz
        exact hrec (_, _) hz
      · rw [if_neg hc] at hz
        exact hrec (_, _) hz
  · rintro n' s rfl
    show Wo (fX11_nearest_s20 _ _ _ _ _ _) _
    unfold fX11_nearest_s20
    rw [hQ.2.1, if_pos (by simp (disch := omega) only [L_add, L_add2, L_mul, L_mul2, L_sub, nI_add, pk_mul, pk_sub, L_le, L_le2, L_lt, L_lt2, L_eq, L_eq2, nI_leI, nI_ltI, nI_eq, nI_clamp, ix_nI, ix_lit, L_cl]; omega), Wo_some]; rfl
theorem r_nearest {μ ν : Mem} (h : REL μ ν) (z0 : Int32) : ∃ (r : Int32), fX11_nearest z0 μ = some r ∧ fX12_nearest z0 ν = some r ∧ REL μ ν := by
  have h' := h
  obtain ⟨w, L, R, a1, a2, a3, a4, a5, a6, a7, a8, a9, a10, a11, a12⟩ := h'
  have hn := a2.1
  unfold fX11_nearest fX12_nearest
  rcases house_cases a2 a3 z0 with ⟨e1, e2⟩ | ⟨k, hk, rfl, e1, e2⟩
  · rw [e1, e2, b1_some, b1_some, if_pos rfl, if_pos rfl]; exact ⟨_, rfl, rfl, h⟩
  · rw [e1, e2, b1_some, b1_some, if_neg n10, if_neg n10]
    refine rel_p h _ (near_c a1 a2 hk) ?_
    have h2 : 2 ^ k < 2 ^ kn w := Nat.pow_lt_pow_right (by omega) hk
    have h3 : 2 ^ kn w ≤ 2 ^ 6 := Nat.pow_le_pow_right (by omega) hn
    rw [many_m a3, b1_some, B_shl (h := k) (by omega), B_cmp (by omega) h2, Wo_b1]
    refine Wo_mono (nearIn_m a1 a3 hk (sub64 h2 h3)) ?_
    rintro r rfl
    rw [Wo_some]
    congr 1
    exact alF_ext (fun i hi => maskD ⟨kn w, by omega⟩ ⟨k, by omega⟩ ⟨i, by omega⟩ hk hi) (fun _ _ => rfl)
def ul (R : Rw) (h o : Nat) : Int32 := jabs (R (12 + h) - R (12 + o))
theorem ul_rng {w : Kw} {R : Rw} {h o : Nat} (hR : RG w R) (hh : h < 6) (ho : o < 6) : 0 ≤ ul R h o ∧ ul R h o ≤ 999 := jabs_999 (hR h hh).2.1 (hR o ho).2.1
theorem apart_c {μ : Mem} {pan R : Rw} {h o : Nat} (hS : SR μ 24 pan R) (hh : h < 6) (ho : o < 6) : fX7_keptApart 24 (nI h) (nI o) μ = some (ul R h o) := by
  unfold fX7_keptApart
  rw [get_3 hS hh, get_3 hS ho]; rfl
theorem unlike_m {w : Kw} {ν : Mem} {R : Rw} {h o : Nat} (hN : NR ν R) (hR : RG w R) (hh : h < 6) (ho : o < 6) : fX12_unlike (nI h) (nI o) ν = some (ul R h o) := by
  unfold fX12_unlike
  rw [L_add2, L_add2, ix_nI (by omega) (by omega), ix_nI (by omega) (by omega), gd_true, gd_true, nI_clamp (by omega), nI_clamp (by omega), hN _ (by omega), hN _ (by omega), off_m (hR h hh).2.1 (hR o ho).2.1]; rfl
/-- the pair that differs least so far -/
def tst (R : Rw) (s : Option (Nat × Int32)) (a b : Nat) : Option (Nat × Int32) := match s with
  | none => some (10 * a + b, ul R a b)
  | some (p, l) => if l ≤ ul R a b then some (p, l) else some (10 * a + b, ul R a b)
def tj (R : Rw) (a : Nat) (s : Option (Nat × Int32)) : Nat → Option (Nat × Int32)
  | 0 => s
  | i + 1 => if a < i then tst R (tj R a s i) a i else tj R a s i
theorem tj_0 {R : Rw} {a i : Nat} {s : Option (Nat × Int32)} (h : i ≤ a + 1) : tj R a s i = s := by
  induction i with
  | zero => rfl
  | succ i ih => show (if a < i then _ else _) = _; rw [if_neg (by omega)]; exact ih (by omega)
def to2 (R : Rw) (n : Nat) : Nat → Option (Nat × Int32)
  | 0 => none
  | a + 1 => tj R a (to2 R n a) n
def tp (z : Int32) (s : Option (Nat × Int32)) : Int32 := match s with
  | none => -2
  | some (p, _) => nI p
def tl (z : Int32) (s : Option (Nat × Int32)) : Int32 := match s with
  | none => z
  | some (_, l) => l
def tok (s : Option (Nat × Int32)) : Prop := match s with
  | none => True
  | some (p, _) => p < 100
theorem tok_st {R : Rw} {s : Option (Nat × Int32)} {a b : Nat} (h : tok s) (ha : a < 6) (hb : b < 6) : tok (tst R s a b) := by
  unfold tst
  split
  · show 10 * a + b < 100; omega
  · split
    · exact h
    · show 10 * a + b < 100; omega
theorem tok_j {R : Rw} {s : Option (Nat × Int32)} {a n : Nat} (h : tok s) (ha : a < 6) (hn : n ≤ 6) : tok (tj R a s n) := by
  induction n with
  | zero => exact h
  | succ n ih =>
    show tok (if a < n then _ else _)
    split
    · exact tok_st (ih (by omega)) ha (by omega)
    · exact ih (by omega)
theorem tok_o {R : Rw} {n m : Nat} (hm : m ≤ 6) (hn : n ≤ 6) : tok (to2 R n m) := by
  induction m with
  | zero => trivial
  | succ m ih => exact tok_j (ih (by omega)) (by omega) hn
theorem twins_c {w : Kw} {μ : Mem} {R : Rw} {z : Int32} (hQ : QC w μ) (hS : SF μ 24 (kp w) R) (hR : RG w R) : Wo (fX11_twins_b11 z μ) (fun r => r = (if z = 0 then tp 0 (to2 R (kn w) (kn w)) else tl (-2) (to2 R (kn w) (kn w)))) := by
  have hn := hQ.1
  unfold fX11_twins_b11
  refine lp0 (σ := Int32 × Int32) (fun n' i s => fX11_twins_l21 _ μ n' s.1 s.2 i) (kn w) (by omega) (fun i s => s = (tp 0 (to2 R (kn w) i), tl 1000000 (to2 R (kn w) i))) _ (-2, 1000000) rfl ?_ ?_
  · rintro n' a s ha rfl hrec
    show Wo (fX11_twins_s21 _ _ _ _ _ _) _
    unfold fX11_twins_s21
    rw [hQ.2.1, if_neg (by simp (disch := omega) only [L_add, L_add2, L_mul, L_mul2, L_sub, nI_add, pk_mul, pk_sub, L_le, L_le2, L_lt, L_lt2, L_eq, L_eq2, nI_leI, nI_ltI, nI_eq, nI_clamp, ix_nI, ix_lit, L_cl]; omega), bd_eq, nI_1]
    refine lpU (σ := Int32 × Int32) (fun n' i s => fX11_twins_l39 _ (nI a) μ n' s.1 s.2 i) (kn w) (fun i s => s = (tp 0 (tj R a (to2 R (kn w) a) i), tl 1000000 (tj R a (to2 R (kn w) a) i)) ∧ a < i) _ ?_ ?_ FU (a + 1) (tp 0 (to2 R (kn w) a), tl 1000000 (to2 R (kn w) a)) (by omega) (by unfold FU; omega) ⟨by rw [tj_0 (Nat.le_refl _)], by omega⟩
    · rintro n'' b s hb ⟨rfl, hab⟩ hrec2
      show Wo (fX11_twins_s39 _ _ _ _ _ _ _) _
      unfold fX11_twins_s39
      rw [hQ.2.1, if_neg (by simp (disch := omega) only [L_add, L_add2, L_mul, L_mul2, L_sub, nI_add, pk_mul, pk_sub, L_le, L_le2, L_lt, L_lt2, L_eq, L_eq2, nI_leI, nI_ltI, nI_eq, nI_clamp, ix_nI, ix_lit, L_cl]; omega), apart_c hS.1 (by omega) (by omega), b1_some, bd_eq, L_mul2, nI_add, nI_1 b]
      have hu := ul_rng hR (show a < 6 by omega) (show b < 6 by omega)
      have e : tj R a (to2 R (kn w) a) (b + 1) = tst R (tj R a (to2 R (kn w) a) b) a b := by
        show (if a < b then _ else _) = _
        rw [if_pos hab]
      cases hs : tj R a (to2 R (kn w) a) b with
      | none =>
        rw [hs] at e
        rw [if_neg (by show ¬ (1000000 : Int32) ≤ _; grind)]
        exact hrec2 (_, _) ⟨by rw [e]; rfl, by omega⟩
      | some q =>
        obtain ⟨p, l⟩ := q
        rw [hs] at e
        refine Wo_if (fun hc => ?_) (fun hc => ?_)
        · refine hrec2 (_, _) ⟨?_, by omega⟩
          rw [e]; unfold tst; dsimp only; rw [if_pos (show l ≤ ul R a b from hc)]
        · refine hrec2 (_, _) ⟨?_, by omega⟩
          rw [e]; unfold tst; dsimp only; rw [if_neg (show ¬ l ≤ ul R a b from hc)]; rfl
    · rintro n'' s ⟨rfl, _⟩
      show Wo (fX11_twins_s39 _ _ _ _ _ _ _) _
      unfold fX11_twins_s39
      rw [hQ.2.1, if_pos (by simp (disch := omega) only [L_add, L_add2, L_mul, L_mul2, L_sub, nI_add, pk_mul, pk_sub, L_le, L_le2, L_lt, L_lt2, L_eq, L_eq2, nI_leI, nI_ltI, nI_eq, nI_clamp, ix_nI, ix_lit, L_cl]; omega)]
      exact hrec (_, _) rfl
  · rintro n' s rfl
    show Wo (fX11_twins_s21 _ _ _ _ _ _) _
    unfold fX11_twins_s21
    rw [hQ.2.1, if_pos (by simp (disch := omega) only [L_add, L_add2, L_mul, L_mul2, L_sub, nI_add, pk_mul, pk_sub, L_le, L_le2, L_lt, L_lt2, L_eq, L_eq2, nI_leI, nI_ltI, nI_eq, nI_clamp, ix_nI, ix_lit, L_cl]; omega)]
    dsimp only
    have ht := @tok_o R (kn w) (kn w) hn hn
    by_cases hz : z = 0
    · rw [if_pos hz, Wo_some, if_pos hz]
    · rw [if_neg hz, if_neg hz]
      cases hs : to2 R (kn w) (kn w) with
      | none => rw [if_pos (show tp 0 none = -2 from rfl), Wo_some]; rfl
      | some q =>
        obtain ⟨p, l⟩ := q
        rw [hs] at ht
        have hp : p < 100 := ht
        rw [if_neg, Wo_some]
        · rfl
        · intro hx
          have := nI_pos (n := p) (by omega)
          rw [show nI p = -2 from hx] at this
          exact this (by decide)
theorem twins_m {w : Kw} {L : Nat} {ν : Mem} {R : Rw} {z : Int32} (hQ : QL w L ν) (hN : NR ν R) (hR : RG w R) : Wo (fX12_twins_l20 z ν FU (-2) (-2) 0) (fun r => r = (if z = 0 then tp 0 (to2 R (kn w) (kn w)) else tl (-2) (to2 R (kn w) (kn w)))) := by
  have hn := hQ.2.1
  refine lp0 (σ := Int32 × Int32) (fun n' i s => fX12_twins_l20 z ν n' s.1 s.2 i) (kn w) (by omega) (fun i s => s = (tp 0 (to2 R (kn w) i), tl (-2) (to2 R (kn w) i))) _ (-2, -2) rfl ?_ ?_
  · rintro n' a s ha rfl hrec
    show Wo (fX12_twins_s20 _ _ _ _ _ _) _
    unfold fX12_twins_s20
    rw [many_m hQ, b1_some, if_neg (by simp (disch := omega) only [L_add, L_add2, L_mul, L_mul2, L_sub, nI_add, pk_mul, pk_sub, L_le, L_le2, L_lt, L_lt2, L_eq, L_eq2, nI_leI, nI_ltI, nI_eq, nI_clamp, ix_nI, ix_lit, L_cl]; omega), bd_eq, nI_1]
    have hto := @tok_o R (kn w) a (by omega) hn
    refine lpU (σ := Int32 × Int32) (fun n' i s => fX12_twins_l35 _ (nI a) ν n' s.1 s.2 i) (kn w) (fun i s => s = (tp 0 (tj R a (to2 R (kn w) a) i), tl (-2) (tj R a (to2 R (kn w) a) i)) ∧ a < i) _ ?_ ?_ FU (a + 1) (tp 0 (to2 R (kn w) a), tl (-2) (to2 R (kn w) a)) (by omega) (by unfold FU; omega) ⟨by rw [tj_0 (Nat.le_refl _)], by omega⟩
    · rintro n'' b s hb ⟨rfl, hab⟩ hrec2
      show Wo (fX12_twins_s35 _ _ _ _ _ _ _) _
      unfold fX12_twins_s35 fX12_twins_b63
      rw [many_m hQ, b1_some, if_neg (by simp (disch := omega) only [L_add, L_add2, L_mul, L_mul2, L_sub, nI_add, pk_mul, pk_sub, L_le, L_le2, L_lt, L_lt2, L_eq, L_eq2, nI_leI, nI_ltI, nI_eq, nI_clamp, ix_nI, ix_lit, L_cl]; omega), unlike_m hN hR (by omega) (by omega)]
      simp only [b1_some, bd_eq]
      rw [L_mul2, nI_add, nI_1 b]
      have e : tj R a (to2 R (kn w) a) (b + 1) = tst R (tj R a (to2 R (kn w) a) b) a b := by
        show (if a < b then _ else _) = _
        rw [if_pos hab]
      have ht := @tok_j R (to2 R (kn w) a) a b hto (by omega) (by omega)
      cases hs : tj R a (to2 R (kn w) a) b with
      | none =>
        rw [hs] at e
        rw [if_pos (by show (-2 : Int32) < 0; decide)]
        exact hrec2 (_, _) ⟨by rw [e]; rfl, by omega⟩
      | some q =>
        obtain ⟨p, l⟩ := q
        rw [hs] at e ht
        have hp : p < 100 := ht
        rw [if_neg (by show ¬ nI p < 0; exact nI_pos (by omega))]
        refine Wo_if (fun hc => ?_) (fun hc => ?_)
        · refine hrec2 (_, _) ⟨?_, by omega⟩
          rw [e]; unfold tst; dsimp only; rw [if_neg (show ¬ l ≤ ul R a b by have : ul R a b < l := hc; grind)]; rfl
        · refine hrec2 (_, _) ⟨?_, by omega⟩
          rw [e]; unfold tst; dsimp only; rw [if_pos (show l ≤ ul R a b by have : ¬ ul R a b < l := hc; grind)]; rfl
    · rintro n'' s ⟨rfl, _⟩
      show Wo (fX12_twins_s35 _ _ _ _ _ _ _) _
      unfold fX12_twins_s35
      rw [many_m hQ, b1_some, if_pos (by simp (disch := omega) only [L_add, L_add2, L_mul, L_mul2, L_sub, nI_add, pk_mul, pk_sub, L_le, L_le2, L_lt, L_lt2, L_eq, L_eq2, nI_leI, nI_ltI, nI_eq, nI_clamp, ix_nI, ix_lit, L_cl]; omega)]
      exact hrec (_, _) rfl
  · rintro n' s rfl
    show Wo (fX12_twins_s20 _ _ _ _ _ _) _
    unfold fX12_twins_s20
    rw [many_m hQ, b1_some, if_pos (by simp (disch := omega) only [L_add, L_add2, L_mul, L_mul2, L_sub, nI_add, pk_mul, pk_sub, L_le, L_le2, L_lt, L_lt2, L_eq, L_eq2, nI_leI, nI_ltI, nI_eq, nI_clamp, ix_nI, ix_lit, L_cl]; omega)]
    by_cases hz : z = 0
    · rw [if_pos hz, Wo_some, if_pos hz]
    · rw [if_neg hz, Wo_some, if_neg hz]
theorem r_twins {μ ν : Mem} (h : REL μ ν) (z0 : Int32) : ∃ (r : Int32), fX11_twins z0 μ = some r ∧ fX12_twins z0 ν = some r ∧ REL μ ν := by
  have h' := h
  obtain ⟨w, L, R, a1, a2, a3, a4, a5, a6, a7, a8, a9, a10, a11, a12⟩ := h'
  unfold fX11_twins fX12_twins
  rw [in01, b1_some]
  by_cases c2 : z0 = 0 ∨ z0 = 1
  · have e : (if z0 = 0 then fX11_twins_b11 z0 μ else if z0 = 1 then fX11_twins_b11 z0 μ else some (-1)) = fX11_twins_b11 z0 μ := by
      rcases c2 with c2 | c2
      · rw [if_pos c2]
      · rw [if_neg (by rw [c2]; decide), if_pos c2]
    rw [e, if_pos c2, if_neg n10]
    exact rel_p h _ (twins_c a2 a5 a4.1) (twins_m a3 a6 a4.1)
  · rw [if_neg c2, if_pos rfl, if_neg (fun hx => c2 (Or.inl hx)), if_neg (fun hx => c2 (Or.inr hx))]; exact ⟨_, rfl, rfl, h⟩
