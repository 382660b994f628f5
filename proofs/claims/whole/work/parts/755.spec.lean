/-- the sorts of TOKENS (the model's numbers), and the class's numbers of them -/
def cKL : List Nat := [23, 21, 22, 24, 59, 61, 40, 41, 43, 45, 42, 100, 101, 60, 102, 47, 103, 104, 105, 106, 0, 1, 2, 3, 4, 5, 6, 7, 8, 9, 10, 11, 12, 13, 14, 15, 16, 19, 20, 17, 18]
def cK (a : Nat) : Nat := cKL.getD a 107
theorem cK_injD : ∀ a : Fin 41, ∀ b : Fin 41, cK a.1 = cK b.1 → a = b := by decide +kernel
theorem cK_ltD : ∀ a : Fin 41, cK a.1 < 107 := by decide +kernel
theorem cK_eq {a b : Nat} (ha : a < 41) (hb : b < 41) : nI (cK a) = nI (cK b) ↔ a = b := by
  have h1 := cK_ltD ⟨a, ha⟩
  have h2 := cK_ltD ⟨b, hb⟩
  dsimp only at h1 h2
  rw [nI_eq (by omega) (by omega)]
  constructor
  · intro h
    have := cK_injD ⟨a, ha⟩ ⟨b, hb⟩ h
    exact congrArg Fin.val this
  · intro h; rw [h]
abbrev Rs : Type := Except (Nat × Nat) (Cd × Nat)
def lpP (tk : Nat → Nat) (U : Nat → Rs) (k1 k2 o1 o2 : Nat) : Nat → Nat → Cd → Rs
  | 0, t, _ => .error (1, t)
  | f + 1, t, c => if tk t = k1 ∨ tk t = k2 then (if t < 400 then (match U (t + 1) with
      | .error x => .error x
      | .ok (c2, t2) => lpP tk U k1 k2 o1 o2 f t2 (c ++ c2 ++ [(if tk t = k1 then o1 else o2, 0)])) else .error (2, t)) else .ok (c, t)
def pBs (tk : Nat → Nat) (tv : Nat → Int32) (t : Nat) : Rs := if tk t = 2 then (if t < 400 then .ok ([(0, tv t)], t + 1) else .error (2, t)) else if 32 ≤ tk t ∧ tk t ≤ 40 then (if t < 400 then .ok ([(1, nI (tk t - 32))], t + 1) else .error (2, t)) else .error (1, t)
def pPr (tk : Nat → Nat) (U : Nat → Rs) (t : Nat) : Rs := match U t with
  | .error x => .error x
  | .ok (c, t1) => lpP tk U 10 15 4 5 401 t1 c
def pSm (tk : Nat → Nat) (U : Nat → Rs) (t : Nat) : Rs := match pPr tk U t with
  | .error x => .error x
  | .ok (c, t1) => lpP tk (pPr tk U) 8 9 2 3 401 t1 c
/-- ')' is taken -/
def pCl (tk : Nat → Nat) (r : Rs) : Rs := match r with
  | .error x => .error x
  | .ok (c, t1) => if tk t1 = 7 then (if t1 < 400 then .ok (c, t1 + 1) else .error (2, t1)) else .error (1, t1)
def pUn (tk : Nat → Nat) (tv : Nat → Int32) : Nat → Nat → Rs
  | 0, t => if tk t = 6 then .error (2, t) else pBs tk tv t
  | d + 1, t => if tk t = 6 then (if t < 400 then pCl tk (pSm tk (pUn tk tv d) (t + 1)) else .error (2, t)) else pBs tk tv t
/-- the last TOKEN that is looked at -/
def TE (tk : Nat → Nat) (e : Nat) : Prop := e ≤ 400 ∧ (tk e = 0 ∨ tk e = 3 ∨ e = 400) ∧ ∀ i, i ≤ e → tk i < 41
theorem TE_nx {tk : Nat → Nat} {e t : Nat} (h : TE tk e) (ht : t ≤ e) (h4 : t < 400) (h0 : tk t ≠ 0) (h3 : tk t ≠ 3) : t + 1 ≤ e := by
  rcases Nat.lt_or_ge t e with hx | hx
  · exact hx
  · have : t = e := by omega
    subst this
    rcases h.2.1 with a | a | a
    · exact absurd a h0
    · exact absurd a h3
    · omega
/-- what holds of what is read from t on -/
def PRs (e m t : Nat) (r : Rs) : Prop := match r with
  | .error (k, t') => (k = 1 ∨ k = 2) ∧ t ≤ t' ∧ t' ≤ e
  | .ok (c, t') => t < t' ∧ t' ≤ e ∧ EX m c ∧ c.length ≤ t' - t
theorem lpP_ok {tk : Nat → Nat} {e m k1 k2 o1 o2 : Nat} {U : Nat → Rs} (hT : TE tk e) (hk : k1 ≠ 0 ∧ k1 ≠ 3 ∧ k2 ≠ 0 ∧ k2 ≠ 3) (ho : (2 ≤ o1 ∧ o1 < 6) ∧ (2 ≤ o2 ∧ o2 < 6)) (hU : ∀ t, t ≤ e → PRs e m t (U t)) {f : Nat} : ∀ {t t0 : Nat} {c : Cd}, t ≤ e → t0 < t → 401 ≤ f + t → EX (m + 1) c → c.length ≤ t - t0 → PRs e (m + 1) t0 (lpP tk U k1 k2 o1 o2 f t c) := by
  induction f with
  | zero =>
    intro t t0 c ht _ hf _ _
    have := hT.1
    omega
  | succ f ih =>
    intro t t0 c ht h0 hf hc hl
    show PRs e (m + 1) t0 (if tk t = k1 ∨ tk t = k2 then (if t < 400 then (match U (t + 1) with | .error x => .error x | .ok (c2, t2) => lpP tk U k1 k2 o1 o2 f t2 (c ++ c2 ++ [(if tk t = k1 then o1 else o2, 0)])) else .error (2, t)) else .ok (c, t))
    by_cases h1 : tk t = k1 ∨ tk t = k2
    · rw [if_pos h1]
      by_cases h4 : t < 400
      · rw [if_pos h4]
        have hne : tk t ≠ 0 ∧ tk t ≠ 3 := by
          rcases h1 with h1 | h1 <;> rw [h1]
          · exact ⟨hk.1, hk.2.1⟩
          · exact ⟨hk.2.2.1, hk.2.2.2⟩
        have hnx := TE_nx hT ht h4 hne.1 hne.2
        have hu := hU (t + 1) hnx
        cases eu : U (t + 1) with
        | error x =>
          obtain ⟨k, t'⟩ := x
          rw [eu] at hu
          exact ⟨hu.1, by have := hu.2.1; omega, hu.2.2⟩
        | ok q =>
          obtain ⟨c2, t2⟩ := q
          rw [eu] at hu
          obtain ⟨u1, u2, u3, u4⟩ := hu
          refine ih u2 (by omega) (by omega) (EX_op hc u3 ?_ ?_) ?_
          · split
            · exact ho.1.1
            · exact ho.2.1
          · split
            · exact ho.1.2
            · exact ho.2.2
          · rw [List.length_append, List.length_append, List.length_cons, List.length_nil]; omega
      · rw [if_neg h4]
        exact ⟨Or.inr rfl, by omega, ht⟩
    · rw [if_neg h1]
      exact ⟨h0, ht, hc, hl⟩
theorem pBs_ok {tk : Nat → Nat} {tv : Nat → Int32} {e t : Nat} (hT : TE tk e) (ht : t ≤ e) : PRs e 1 t (pBs tk tv t) := by
  unfold pBs
  by_cases h1 : tk t = 2
  · rw [if_pos h1]
    by_cases h4 : t < 400
    · rw [if_pos h4]
      exact ⟨by omega, TE_nx hT ht h4 (by omega) (by omega), EX_int, by rw [List.length_cons, List.length_nil]; omega⟩
    · rw [if_neg h4]; exact ⟨Or.inr rfl, Nat.le_refl _, ht⟩
  · rw [if_neg h1]
    by_cases h2 : 32 ≤ tk t ∧ tk t ≤ 40
    · rw [if_pos h2]
      by_cases h4 : t < 400
      · rw [if_pos h4]
        exact ⟨by omega, TE_nx hT ht h4 (by omega) (by omega), EX_var (by omega), by rw [List.length_cons, List.length_nil]; omega⟩
      · rw [if_neg h4]; exact ⟨Or.inr rfl, Nat.le_refl _, ht⟩
    · rw [if_neg h2]; exact ⟨Or.inl rfl, Nat.le_refl _, ht⟩
theorem pPr_ok {tk : Nat → Nat} {e m : Nat} {U : Nat → Rs} (hT : TE tk e) (hU : ∀ t, t ≤ e → PRs e m t (U t)) {t : Nat} (ht : t ≤ e) : PRs e (m + 1) t (pPr tk U t) := by
  unfold pPr
  have hu := hU t ht
  cases eu : U t with
  | error x => rw [eu] at hu; exact hu
  | ok q =>
    obtain ⟨c, t1⟩ := q
    rw [eu] at hu
    obtain ⟨u1, u2, u3, u4⟩ := hu
    exact lpP_ok hT ⟨by omega, by omega, by omega, by omega⟩ ⟨⟨by omega, by omega⟩, by omega, by omega⟩ hU u2 u1 (by omega) (EX_mono u3 (by omega)) u4
theorem pSm_ok {tk : Nat → Nat} {e m : Nat} {U : Nat → Rs} (hT : TE tk e) (hU : ∀ t, t ≤ e → PRs e m t (U t)) {t : Nat} (ht : t ≤ e) : PRs e (m + 2) t (pSm tk U t) := by
  unfold pSm
  have hu := pPr_ok hT hU ht
  cases eu : pPr tk U t with
  | error x => rw [eu] at hu; exact hu
  | ok q =>
    obtain ⟨c, t1⟩ := q
    rw [eu] at hu
    obtain ⟨u1, u2, u3, u4⟩ := hu
    exact lpP_ok hT ⟨by omega, by omega, by omega, by omega⟩ ⟨⟨by omega, by omega⟩, by omega, by omega⟩ (fun t ht => pPr_ok hT hU ht) u2 u1 (by omega) (EX_mono u3 (by omega)) u4
theorem PRs_mono {e m m' t : Nat} {r : Rs} (h : PRs e m t r) (hm : m ≤ m') : PRs e m' t r := by
  cases r with
  | error x => exact h
  | ok q => obtain ⟨c, t1⟩ := q; exact ⟨h.1, h.2.1, EX_mono h.2.2.1 hm, h.2.2.2⟩
theorem pUn_ok {tk : Nat → Nat} {tv : Nat → Int32} {e : Nat} (hT : TE tk e) {d : Nat} : ∀ {t : Nat}, t ≤ e → PRs e (2 * d + 1) t (pUn tk tv d t) := by
  induction d with
  | zero =>
    intro t ht
    show PRs e 1 t (if tk t = 6 then .error (2, t) else pBs tk tv t)
    split
    · exact ⟨Or.inr rfl, Nat.le_refl _, ht⟩
    · exact pBs_ok hT ht
  | succ d ih =>
    intro t ht
    show PRs e (2 * (d + 1) + 1) t (if tk t = 6 then (if t < 400 then pCl tk (pSm tk (pUn tk tv d) (t + 1)) else .error (2, t)) else pBs tk tv t)
    by_cases h6 : tk t = 6
    · rw [if_pos h6]
      by_cases h4 : t < 400
      · rw [if_pos h4]
        have hnx := TE_nx hT ht h4 (by omega) (by omega)
        have hs := pSm_ok hT (fun t ht => ih (t := t) ht) hnx
        unfold pCl
        cases es : pSm tk (pUn tk tv d) (t + 1) with
        | error x =>
          obtain ⟨k, t'⟩ := x
          rw [es] at hs
          exact ⟨hs.1, by have := hs.2.1; omega, hs.2.2⟩
        | ok q =>
          obtain ⟨c, t1⟩ := q
          rw [es] at hs
          obtain ⟨u1, u2, u3, u4⟩ := hs
          dsimp only
          by_cases h7 : tk t1 = 7
          · rw [if_pos h7]
            by_cases h4' : t1 < 400
            · rw [if_pos h4']
              exact ⟨by omega, TE_nx hT u2 h4' (by omega) (by omega), EX_mono u3 (by omega), by omega⟩
            · rw [if_neg h4']; exact ⟨Or.inr rfl, by omega, u2⟩
          · rw [if_neg h7]; exact ⟨Or.inl rfl, by omega, u2⟩
      · rw [if_neg h4]; exact ⟨Or.inr rfl, Nat.le_refl _, ht⟩
    · rw [if_neg h6]
      exact PRs_mono (pBs_ok hT ht) (by omega)
/-- an E of a LAW -/
def pE (tk : Nat → Nat) (tv : Nat → Int32) (t : Nat) : Rs := pSm tk (pUn tk tv 6) t
theorem pE_ok {tk : Nat → Nat} {tv : Nat → Int32} {e t : Nat} (hT : TE tk e) (ht : t ≤ e) : PRs e 15 t (pE tk tv t) := pSm_ok (m := 13) hT (fun _ h => pUn_ok hT h) ht
