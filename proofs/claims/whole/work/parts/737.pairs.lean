theorem pcD6 : ∀ x : Fin 64, ∀ h : Fin 6, x.1.testBit h.1 = true → pcn (x.1 ^^^ 2 ^ h.1) + 1 = pcn x.1 := by decide +kernel
theorem pc_xor {n x h : Nat} (hn : n ≤ 6) (hx : x < 2 ^ n) (hh : h < n) (hb : x.testBit h = true) : pcn (x ^^^ 2 ^ h) + 1 = pcn x := pcD6 ⟨x, lt64 hx hn⟩ ⟨h, by omega⟩ hb
theorem xor_lt {n x h : Nat} (hx : x < 2 ^ n) (hh : h < n) : x ^^^ 2 ^ h < 2 ^ n := Nat.xor_lt_two_pow hx (Nat.pow_lt_pow_right (by omega) hh)
theorem tb_xor {x h i : Nat} : (x ^^^ 2 ^ h).testBit i = (x.testBit i ^^ decide (h = i)) := by rw [Nat.testBit_xor, Nat.testBit_two_pow]
/-- with whom the house may be: an other one behind it, or (n) nobody -/
def pP (n m x o : Nat) : Bool := if o < n then x.testBit o && decide (n - (m + 1) < o) else pcn x % 2 == 1
def pvS (R : Rw) (n : Nat) : Nat → Nat → Int32
  | 0, _ => 0
  | m + 1, x => if x.testBit (n - (m + 1)) then oV (fun o => if o < n then ul R (n - (m + 1)) o + pvS R n m (x ^^^ 2 ^ (n - (m + 1)) ^^^ 2 ^ o) else pvS R n m (x ^^^ 2 ^ (n - (m + 1)))) 0 (alF (pP n m x) (fun o => if o < n then ul R (n - (m + 1)) o + pvS R n m (x ^^^ 2 ^ (n - (m + 1)) ^^^ 2 ^ o) else pvS R n m (x ^^^ 2 ^ (n - (m + 1)))) (n + 1)) else pvS R n m x
def gP (R : Rw) (n m x o : Nat) : Int32 := if o < n then ul R (n - (m + 1)) o + pvS R n m (x ^^^ 2 ^ (n - (m + 1)) ^^^ 2 ^ o) else pvS R n m (x ^^^ 2 ^ (n - (m + 1)))
def cP (R : Rw) (n m x : Nat) : Nat := match alF (pP n m x) (gP R n m x) (n + 1) with
  | none => n
  | some o => o
def pwS (R : Rw) (n : Nat) : Nat → Nat → Nat → Int32
  | 0, _, _ => -2
  | m + 1, x, i => if x.testBit (n - (m + 1)) then (if cP R n m x < n then (if i = n - (m + 1) then nI (cP R n m x) else if i = cP R n m x then nI (n - (m + 1)) else pwS R n m (x ^^^ 2 ^ (n - (m + 1)) ^^^ 2 ^ cP R n m x) i) else (if i = n - (m + 1) then -2 else pwS R n m (x ^^^ 2 ^ (n - (m + 1))) i)) else pwS R n m x i
/-- a set of houses of which none comes before the m last ones -/
def Bx (n m x : Nat) : Prop := x < 2 ^ n ∧ ∀ i, i < n - m → x.testBit i = false
theorem bits_2 {n x h : Nat} (hn : n ≤ 6) (hx : x < 2 ^ n) (hh : h < n) (hb : x.testBit h = true) (hp : pcn x % 2 = 0) : ∃ o, o < n ∧ o ≠ h ∧ x.testBit o = true := by
  have h1 := pc_xor hn hx hh hb
  have h2 : 0 < pcn (x ^^^ 2 ^ h) := by omega
  have h3 : ¬ ∀ i, i < n → (x ^^^ 2 ^ h).testBit i = false := by
    intro hall
    have : x ^^^ 2 ^ h = 0 := by
      apply Nat.eq_of_testBit_eq
      intro i
      rw [Nat.zero_testBit]
      by_cases hi : i < n
      · exact hall i hi
      · exact tb_hi (xor_lt hx hh) (by omega)
    rw [this] at h2
    exact absurd h2 (by decide)
  have h4 : ∃ i, i < n ∧ ¬ (x ^^^ 2 ^ h).testBit i = false := by
    apply Classical.byContradiction
    intro hne
    apply h3
    intro i hi
    apply Classical.byContradiction
    intro hx
    exact hne ⟨i, hi, hx⟩
  obtain ⟨i, hi, h5⟩ := h4
  rw [tb_xor] at h5
  by_cases he : h = i
  · subst he; rw [hb] at h5; simp at h5
  · exact ⟨i, hi, fun hx => he hx.symm, by simpa [he] using h5⟩
theorem cP_al {R : Rw} {n m x : Nat} (hn : n ≤ 6) (hm : m + 1 ≤ n) (hB : Bx n (m + 1) x) (hb : x.testBit (n - (m + 1)) = true) : alF (pP n m x) (gP R n m x) (n + 1) = some (cP R n m x) ∧ pP n m x (cP R n m x) = true ∧ cP R n m x ≤ n := by
  cases e : alF (pP n m x) (gP R n m x) (n + 1) with
  | none =>
    exfalso
    have hz := alF_none e
    by_cases hp : pcn x % 2 = 1
    · have := hz n (by omega)
      unfold pP at this
      rw [if_neg (by omega), hp] at this
      cases this
    · obtain ⟨o, ho, hne, hbo⟩ := bits_2 hn hB.1 (by omega) hb (by omega)
      have := hz o (by omega)
      unfold pP at this
      rw [if_pos ho, hbo] at this
      have hlt : ¬ o < n - (m + 1) := fun hx => by have := hB.2 o hx; rw [hbo] at this; cases this
      simp at this
      omega
  | some o =>
    have h1 := alF_lt e
    have : cP R n m x = o := by unfold cP; rw [e]
    rw [this]
    exact ⟨rfl, h1.2, by omega⟩
theorem pvS_s {R : Rw} {n m x : Nat} (hn : n ≤ 6) (hm : m + 1 ≤ n) (hB : Bx n (m + 1) x) (hb : x.testBit (n - (m + 1)) = true) : pvS R n (m + 1) x = gP R n m x (cP R n m x) := by
  show (if x.testBit (n - (m + 1)) then oV (gP R n m x) 0 (alF (pP n m x) (gP R n m x) (n + 1)) else pvS R n m x) = _
  rw [if_pos hb, (cP_al hn hm hB hb).1]; rfl
theorem pvS_f {R : Rw} {n m x : Nat} (hb : x.testBit (n - (m + 1)) = false) : pvS R n (m + 1) x = pvS R n m x := by
  show (if x.testBit (n - (m + 1)) then _ else pvS R n m x) = _
  rw [if_neg (by rw [hb]; decide)]
theorem Bx_f {n m x : Nat} (hB : Bx n (m + 1) x) (hb : x.testBit (n - (m + 1)) = false) : Bx n m x := by
  refine ⟨hB.1, fun i hi => ?_⟩
  by_cases he : i = n - (m + 1)
  · subst he; exact hb
  · exact hB.2 i (by omega)
theorem Bx_1 {n m x : Nat} (hm : m + 1 ≤ n) (hB : Bx n (m + 1) x) (hb : x.testBit (n - (m + 1)) = true) : Bx n m (x ^^^ 2 ^ (n - (m + 1))) := by
  refine ⟨xor_lt hB.1 (by omega), fun i hi => ?_⟩
  rw [tb_xor]
  by_cases he : n - (m + 1) = i
  · subst he; rw [hb]; simp
  · rw [hB.2 i (by omega)]; simp [he]
theorem Bx_2 {n m x o : Nat} (hm : m + 1 ≤ n) (hB : Bx n (m + 1) x) (hb : x.testBit (n - (m + 1)) = true) (ho : o < n) (hlt : n - (m + 1) < o) : Bx n m (x ^^^ 2 ^ (n - (m + 1)) ^^^ 2 ^ o) := by
  have h1 := Bx_1 hm hB hb
  refine ⟨xor_lt h1.1 ho, fun i hi => ?_⟩
  rw [tb_xor, h1.2 i hi]
  have : ¬ o = i := by omega
  simp [this]
theorem pc_2 {n m x o : Nat} (hn : n ≤ 6) (hm : m + 1 ≤ n) (hB : Bx n (m + 1) x) (hb : x.testBit (n - (m + 1)) = true) (ho : o < n) (hlt : n - (m + 1) < o) (hbo : x.testBit o = true) : pcn (x ^^^ 2 ^ (n - (m + 1)) ^^^ 2 ^ o) + 2 = pcn x := by
  have h1 := pc_xor hn hB.1 (show n - (m + 1) < n by omega) hb
  have h2 := pc_xor hn (Bx_1 hm hB hb).1 ho (by rw [tb_xor, hbo]; have : ¬ n - (m + 1) = o := by omega
                                                simp [this])
  omega
theorem ul_nI {w : Kw} {R : Rw} {h o : Nat} (hR : RG w R) (hh : h < 6) (ho : o < 6) : ∃ v, v ≤ 999 ∧ ul R h o = nI v := rng_nI (n := 999) rfl (ul_rng hR hh ho)
theorem pvS_nI {w : Kw} {R : Rw} {n : Nat} (hR : RG w R) (hn : n ≤ 6) {m : Nat} : ∀ {x : Nat}, m ≤ n → Bx n m x → ∃ v, v ≤ 999 * pcn x ∧ pvS R n m x = nI v := by
  induction m with
  | zero => intro x _ _; exact ⟨0, by omega, rfl⟩
  | succ m ih =>
    intro x hm hB
    cases hb : x.testBit (n - (m + 1)) with
    | false => rw [pvS_f hb]; exact ih (by omega) (Bx_f hB hb)
    | true =>
      obtain ⟨e1, e2, e3⟩ := cP_al (R := R) hn hm hB hb
      rw [pvS_s hn hm hB hb]
      unfold gP
      unfold pP at e2
      by_cases ho : cP R n m x < n
      · rw [if_pos ho] at e2 ⊢
        simp at e2
        obtain ⟨v, hv, ev⟩ := ih (by omega) (Bx_2 hm hB hb ho e2.2)
        obtain ⟨u, hu, eu⟩ := ul_nI hR (show n - (m + 1) < 6 by omega) (show cP R n m x < 6 by omega)
        have := pc_2 hn hm hB hb ho e2.2 e2.1
        exact ⟨u + v, by omega, by rw [eu, ev, nI_add]⟩
      · rw [if_neg ho]
        obtain ⟨v, hv, ev⟩ := ih (by omega) (Bx_1 hm hB hb)
        have := pc_xor hn hB.1 (show n - (m + 1) < n by omega) hb
        exact ⟨v, by omega, ev⟩
theorem gP_nI {w : Kw} {R : Rw} {n m x o : Nat} (hR : RG w R) (hn : n ≤ 6) (hm : m + 1 ≤ n) (hB : Bx n (m + 1) x) (hb : x.testBit (n - (m + 1)) = true) (hp : pP n m x o = true) : ∃ v, v ≤ 999 * pcn x ∧ gP R n m x o = nI v := by
  unfold gP
  unfold pP at hp
  by_cases ho : o < n
  · rw [if_pos ho] at hp ⊢
    simp at hp
    obtain ⟨v, hv, ev⟩ := pvS_nI hR hn (by omega) (Bx_2 hm hB hb ho hp.2)
    obtain ⟨u, hu, eu⟩ := ul_nI hR (show n - (m + 1) < 6 by omega) (show o < 6 by omega)
    have := pc_2 hn hm hB hb ho hp.2 hp.1
    exact ⟨u + v, by omega, by rw [eu, ev, nI_add]⟩
  · rw [if_neg ho]
    obtain ⟨v, hv, ev⟩ := pvS_nI hR hn (by omega) (Bx_1 hm hB hb)
    have := pc_xor hn hB.1 (show n - (m + 1) < n by omega) hb
    exact ⟨v, by omega, ev⟩
/-- what a search leaves: the least and the best -/
def GGp (n c0 c1 : Nat) (S T : Int32) (B b0 : Nat → Int32) (s : Mem) : Prop := (T < S ∧ s.1 c0 2 = T ∧ ∀ k, k < n → s.1 c1 k = B k) ∨ (¬ T < S ∧ s.1 c0 2 = S ∧ s.1 c1 = b0)
theorem sm_lt2 {l c d : Nat} (hl : l ≤ 100000) (hc : c ≤ 100000) (hd : d ≤ 100000) : nI l + nI c < nI l + nI d ↔ nI c < nI d := by
  rw [nI_add, nI_add, nI_ltI (by omega) (by omega), nI_ltI (by omega) (by omega)]; omega
theorem GGp_step {n c0 c1 i l : Nat} {S : Int32} {p : Nat → Bool} {g : Nat → Int32} {Bf : Nat → Nat → Int32} {b0 : Nat → Int32} {s s' : Mem} (hp : p i = true) (hl : l ≤ 100000) (hg : ∀ o, p o = true → ∃ v, v ≤ 100000 ∧ g o = nI v)
    (h0 : match alF p g i with
      | none => s.1 c0 2 = S ∧ s.1 c1 = b0
      | some b => GGp n c0 c1 S (nI l + g b) (Bf b) b0 s)
    (h1 : GGp n c0 c1 (s.1 c0 2) (nI l + g i) (Bf i) (s.1 c1) s') : ∃ b, alF p g (i + 1) = some b ∧ GGp n c0 c1 S (nI l + g b) (Bf b) b0 s' := by
  have e : alF p g (i + 1) = (match alF p g i with | none => some i | some b => if g b ≤ g i then some b else some i) := by
    show (if p i then _ else _) = _
    rw [if_pos hp]; rfl
  obtain ⟨vi, hvi, ei⟩ := hg i hp
  cases ha : alF p g i with
  | none =>
    rw [ha] at e h0
    obtain ⟨g1, g2⟩ := h0
    refine ⟨i, e, ?_⟩
    rw [g1, g2] at h1
    exact h1
  | some b =>
    have hb2 := alF_lt ha
    obtain ⟨vb, hvb, eb⟩ := hg b hb2.2
    rw [ha] at e h0
    dsimp only at e h0
    rcases h0 with ⟨g1, g2, g3⟩ | ⟨g1, g2, g3⟩
    · rw [g2] at h1
      rcases h1 with ⟨a1, a2, a3⟩ | ⟨a1, a2, a3⟩
      · have hlt : ¬ g b ≤ g i := by
          rw [ei, eb] at a1 ⊢
          rw [sm_lt2 (by omega) (by omega) (by omega), nI_ltI (by omega) (by omega)] at a1
          rw [nI_leI (by omega) (by omega)]; omega
        rw [if_neg hlt] at e
        exact ⟨i, e, Or.inl ⟨by grind, a2, a3⟩⟩
      · have hle : g b ≤ g i := by
          rw [ei, eb] at a1 ⊢
          rw [sm_lt2 (by omega) (by omega) (by omega), nI_ltI (by omega) (by omega)] at a1
          rw [nI_leI (by omega) (by omega)]; omega
        rw [if_pos hle] at e
        exact ⟨b, e, Or.inl ⟨g1, a2, fun k hk => by rw [a3]; exact g3 k hk⟩⟩
    · rw [g2] at h1
      rcases h1 with ⟨a1, a2, a3⟩ | ⟨a1, a2, a3⟩
      · have hlt : ¬ g b ≤ g i := by
          have h3 : nI l + g i < nI l + g b := by grind
          rw [ei, eb] at h3 ⊢
          rw [sm_lt2 (by omega) (by omega) (by omega), nI_ltI (by omega) (by omega)] at h3
          rw [nI_leI (by omega) (by omega)]; omega
        rw [if_neg hlt] at e
        exact ⟨i, e, Or.inl ⟨a1, a2, a3⟩⟩
      · by_cases hle : g b ≤ g i
        · rw [if_pos hle] at e
          exact ⟨b, e, Or.inr ⟨g1, a2, by rw [a3, g3]⟩⟩
        · rw [if_neg hle] at e
          exact ⟨i, e, Or.inr ⟨a1, a2, by rw [a3, g3]⟩⟩
