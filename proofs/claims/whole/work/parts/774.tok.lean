/-- bytes -/
def blB (c : Int32) : Bool := decide (c = 9) || decide (c = 10) || decide (c = 13) || decide (c = 32)
def leB (c : Int32) : Bool := !decide (c < 97) && !decide (122 < c)
def diB (c : Int32) : Bool := !decide (c < 48) && !decide (57 < c)
def sgB (c : Int32) : Nat := if c = 59 then 4 else if c = 61 then 5 else if c = 40 then 6 else if c = 41 then 7 else if c = 43 then 8 else if c = 45 then 9 else if c = 42 then 10 else if c = 47 then 15 else if c = 60 then 13 else 3
/-- the end of a run of such bytes: r of them are left -/
def eW (p : Int32 → Bool) (b : Nat → Int32) : Nat → Nat → Nat
  | 0, i => i
  | r + 1, i => if p (b i) then eW p b r (i + 1) else i
theorem eW_le {p : Int32 → Bool} {b : Nat → Int32} {r : Nat} : ∀ {i : Nat}, i ≤ eW p b r i ∧ eW p b r i ≤ i + r := by
  induction r with
  | zero => intro i; exact ⟨Nat.le_refl _, Nat.le_refl _⟩
  | succ r ih =>
    intro i
    show i ≤ (if p (b i) = true then eW p b r (i + 1) else i) ∧ (if p (b i) = true then eW p b r (i + 1) else i) ≤ _
    have := ih (i := i + 1)
    split
    · omega
    · omega
theorem eW_in {p : Int32 → Bool} {b : Nat → Int32} {r : Nat} : ∀ {i k : Nat}, i ≤ k → k < eW p b r i → p (b k) = true := by
  induction r with
  | zero => intro i k h1 h2; have : eW p b 0 i = i := rfl; omega
  | succ r ih =>
    intro i k h1 h2
    have e : eW p b (r + 1) i = if p (b i) = true then eW p b r (i + 1) else i := rfl
    by_cases h : p (b i) = true
    · rw [e, if_pos h] at h2
      by_cases hk : k = i
      · rw [hk]; exact h
      · exact ih (by omega) h2
    · rw [e, if_neg h] at h2; omega
theorem eW_out {p : Int32 → Bool} {b : Nat → Int32} {r : Nat} : ∀ {i : Nat}, eW p b r i < i + r → p (b (eW p b r i)) = false := by
  induction r with
  | zero => intro i h; have : eW p b 0 i = i := rfl; omega
  | succ r ih =>
    intro i h
    have e : eW p b (r + 1) i = if p (b i) = true then eW p b r (i + 1) else i := rfl
    by_cases hp : p (b i) = true
    · rw [e, if_pos hp] at h ⊢
      exact ih (by omega)
    · rw [e, if_neg hp]
      exact Bool.eq_false_iff.mpr hp
/-- where the token that begins at i ends -/
def tEn (b : Nat → Int32) (T i : Nat) : Nat := if T ≤ i then i else if leB (b i) then eW leB b (T - (i + 1)) (i + 1) else if diB (b i) then eW diB b (T - (i + 1)) (i + 1) else i + 1
def nmF (b : Nat → Int32) : Nat → Nat → Int64 → Int64
  | 0, _, x => x
  | r + 1, i, x => nmF b r (i + 1) (x * 27 + ((b i - 97) + 1).toInt64)
def nuF (b : Nat → Int32) : Nat → Nat → Int64 → Int64
  | 0, _, x => x
  | r + 1, i, x => nuF b r (i + 1) (x * 10 + (b i - 48).toInt64)
/-- the class's kind of a name; the model's -/
def kdC (x : Int64) : Nat → Nat → Nat
  | 0, _ => 21
  | r + 1, i => if WCL.getD i 0 = x then i else kdC x r (i + 1)
def kdM (x : Int64) : Nat → Nat → Nat → Nat
  | 0, _, a => a
  | r + 1, i, a => if WKL.getD i 0 = x then kdM x r (i + 1) (20 + i) else kdM x r (i + 1) a
theorem kd_in : ∀ j : Fin 21, kdC (WCL.getD j.1 0) 21 0 = cK (kdM (WCL.getD j.1 0) 21 0 1) := by decide +kernel
theorem kd_sub : ∀ j : Fin 21, ∃ i : Fin 21, WKL.getD j.1 0 = WCL.getD i.1 0 := by decide +kernel
theorem kd_eq (x : Int64) : kdC x 21 0 = cK (kdM x 21 0 1) := by
  by_cases h : ∃ j : Fin 21, WCL.getD j.1 0 = x
  · obtain ⟨j, rfl⟩ := h
    exact kd_in j
  · have h1 : ∀ r i, r + i = 21 → kdC x r i = 21 := by
      intro r
      induction r with
      | zero => intro i _; rfl
      | succ r ih =>
        intro i hi
        show (if WCL.getD i 0 = x then i else kdC x r (i + 1)) = 21
        rw [if_neg (fun hx => h ⟨⟨i, by omega⟩, hx⟩)]
        exact ih (i + 1) (by omega)
    have h2 : ∀ r i, r + i = 21 → kdM x r i 1 = 1 := by
      intro r
      induction r with
      | zero => intro i _; rfl
      | succ r ih =>
        intro i hi
        show (if WKL.getD i 0 = x then kdM x r (i + 1) (20 + i) else kdM x r (i + 1) 1) = 1
        rw [if_neg (fun hx => by
          obtain ⟨j, hj⟩ := kd_sub ⟨i, by omega⟩
          exact h ⟨j, hj.symm.trans hx⟩)]
        exact ih (i + 1) (by omega)
    rw [h1 21 0 rfl, h2 21 0 rfl]
    rfl
theorem kdM_lt {x : Int64} {r : Nat} : ∀ {i a : Nat}, r + i = 21 → a < 41 → a ≠ 0 → a ≠ 3 → kdM x r i a < 41 ∧ kdM x r i a ≠ 0 ∧ kdM x r i a ≠ 3 ∧ kdM x r i a ≠ 2 ∨ a = 2 := by
  induction r with
  | zero => intro i a _ h1 h2 h3; by_cases ha : a = 2
            · exact Or.inr ha
            · exact Or.inl ⟨h1, h2, h3, ha⟩
  | succ r ih =>
    intro i a hi h1 h2 h3
    show (if WKL.getD i 0 = x then kdM x r (i + 1) (20 + i) else kdM x r (i + 1) a) < 41 ∧ (if WKL.getD i 0 = x then kdM x r (i + 1) (20 + i) else kdM x r (i + 1) a) ≠ 0 ∧ (if WKL.getD i 0 = x then kdM x r (i + 1) (20 + i) else kdM x r (i + 1) a) ≠ 3 ∧ (if WKL.getD i 0 = x then kdM x r (i + 1) (20 + i) else kdM x r (i + 1) a) ≠ 2 ∨ a = 2
    split
    · rcases ih (i := i + 1) (a := 20 + i) (by omega) (by omega) (by omega) (by omega) with h | h
      · exact Or.inl h
      · omega
    · exact ih (by omega) h1 h2 h3
/-- the kind of the token from i to j -/
def tKd (b : Nat → Int32) (T i j : Nat) : Nat := if T ≤ i then 0 else if leB (b i) then (if j - i ≤ 8 then kdM (nmF b (j - i) i 0) 21 0 1 else 3) else if diB (b i) then (if j - i ≤ 4 then 2 else 3) else sgB (b i)
/-- where the token n begins looking, begins, ends -/
def tP (b : Nat → Int32) (T : Nat) : Nat → Nat
  | 0 => 0
  | n + 1 => tEn b T (eW blB b (T - tP b T n) (tP b T n))
def tSt (b : Nat → Int32) (T n : Nat) : Nat := eW blB b (T - tP b T n) (tP b T n)
def tTk (b : Nat → Int32) (T n : Nat) : Nat := tKd b T (tSt b T n) (tP b T (n + 1))
def tTv (b : Nat → Int32) (T n : Nat) : Int32 := (nuF b (tP b T (n + 1) - tSt b T n) (tSt b T n) 0).toInt32
def tTn (b : Nat → Int32) (T n : Nat) : Int64 := nmF b (tP b T (n + 1) - tSt b T n) (tSt b T n) 0
def tPl (b : Nat → Int32) (T n : Nat) : Int32 := nI (tSt b T n)
def stE (tk : Nat → Nat) : Nat → Nat → Nat
  | 0, n => n
  | r + 1, n => if tk n = 0 ∨ tk n = 3 then n else stE tk r (n + 1)
theorem stE_le {tk : Nat → Nat} {r : Nat} : ∀ {n : Nat}, n ≤ stE tk r n ∧ stE tk r n ≤ n + r := by
  induction r with
  | zero => intro n; exact ⟨Nat.le_refl _, Nat.le_refl _⟩
  | succ r ih =>
    intro n
    show n ≤ (if tk n = 0 ∨ tk n = 3 then n else stE tk r (n + 1)) ∧ (if tk n = 0 ∨ tk n = 3 then n else stE tk r (n + 1)) ≤ _
    have := ih (n := n + 1)
    split <;> omega
theorem stE_at {tk : Nat → Nat} {r : Nat} : ∀ {n : Nat}, tk (stE tk r n) = 0 ∨ tk (stE tk r n) = 3 ∨ stE tk r n = n + r := by
  induction r with
  | zero => intro n; exact Or.inr (Or.inr rfl)
  | succ r ih =>
    intro n
    have e : stE tk (r + 1) n = if tk n = 0 ∨ tk n = 3 then n else stE tk r (n + 1) := rfl
    by_cases h : tk n = 0 ∨ tk n = 3
    · rw [e, if_pos h]; rcases h with h | h
      · exact Or.inl h
      · exact Or.inr (Or.inl h)
    · rw [e, if_neg h]; have := ih (n := n + 1); omega
theorem stE_bef {tk : Nat → Nat} {r : Nat} : ∀ {n i : Nat}, n ≤ i → i < stE tk r n → tk i ≠ 0 ∧ tk i ≠ 3 := by
  induction r with
  | zero => intro n i h1 h2; have : stE tk 0 n = n := rfl; omega
  | succ r ih =>
    intro n i h1 h2
    have e : stE tk (r + 1) n = if tk n = 0 ∨ tk n = 3 then n else stE tk r (n + 1) := rfl
    by_cases h : tk n = 0 ∨ tk n = 3
    · rw [e, if_pos h] at h2; omega
    · rw [e, if_neg h] at h2
      by_cases hi : i = n
      · subst hi; exact ⟨fun hx => h (Or.inl hx), fun hx => h (Or.inr hx)⟩
      · exact ih (by omega) h2
theorem sgB_lt (c : Int32) : sgB c < 41 ∧ sgB c ≠ 0 ∧ sgB c ≠ 2 ∧ sgB c ≠ 1 := by
  unfold sgB
  repeat' split
  all_goals omega
theorem tKd_lt {b : Nat → Int32} {T i j : Nat} : tKd b T i j < 41 := by
  unfold tKd
  have h := kdM_lt (x := nmF b (j - i) i 0) (r := 21) (i := 0) (a := 1) rfl (by omega) (by omega) (by omega)
  have h2 := (sgB_lt (b i)).1
  repeat' split
  all_goals omega
def eT (b : Nat → Int32) (T : Nat) : Nat := stE (tTk b T) 400 0
theorem TE_t {b : Nat → Int32} {T : Nat} : TE (tTk b T) (eT b T) := by
  refine ⟨?_, ?_, fun i _ => tKd_lt⟩
  · have := (stE_le (tk := tTk b T) (r := 400) (n := 0)).2; unfold eT; omega
  · have := stE_at (tk := tTk b T) (r := 400) (n := 0); unfold eT; omega
theorem tEn_gt {b : Nat → Int32} {T i : Nat} (h : i < T) : i < tEn b T i ∧ tEn b T i ≤ T := by
  unfold tEn
  rw [if_neg (by omega)]
  have h1 := eW_le (p := leB) (b := b) (r := T - (i + 1)) (i := i + 1)
  have h2 := eW_le (p := diB) (b := b) (r := T - (i + 1)) (i := i + 1)
  repeat' split
  all_goals omega
theorem tP_le {b : Nat → Int32} {T n : Nat} : tP b T n ≤ tSt b T n ∧ tSt b T n ≤ T ∧ tSt b T n ≤ tP b T (n + 1) ∧ tP b T (n + 1) ≤ T := by
  have hP : ∀ n, tP b T n ≤ T := by
    intro n
    induction n with
    | zero => exact Nat.zero_le _
    | succ n ih =>
      have h1 := eW_le (p := blB) (b := b) (r := T - tP b T n) (i := tP b T n)
      show tEn b T (eW blB b (T - tP b T n) (tP b T n)) ≤ T
      by_cases h : eW blB b (T - tP b T n) (tP b T n) < T
      · exact (tEn_gt h).2
      · unfold tEn; rw [if_pos (by omega)]; omega
  have h1 := eW_le (p := blB) (b := b) (r := T - tP b T n) (i := tP b T n)
  have h0 := hP n
  refine ⟨h1.1, by unfold tSt; omega, ?_, hP _⟩
  show tSt b T n ≤ tEn b T (tSt b T n)
  by_cases h : tSt b T n < T
  · exact Nat.le_of_lt (tEn_gt h).1
  · unfold tEn; rw [if_pos (by omega)]; omega
theorem PLm_t {b : Nat → Int32} {T : Nat} (hT : T ≤ 2000) : PLm (tPl b T) (eT b T) := by
  have st : ∀ n, n < eT b T → tSt b T n < tSt b T (n + 1) := by
    intro n hn
    have h0 := (stE_bef (tk := tTk b T) (r := 400) (n := 0) (i := n) (Nat.zero_le _) hn).1
    have h1 := tP_le (b := b) (T := T) (n := n)
    have h2 := tP_le (b := b) (T := T) (n := n + 1)
    have h3 : tSt b T n < T := by
      rcases Nat.lt_or_ge (tSt b T n) T with hx | hx
      · exact hx
      · refine absurd ?_ h0
        unfold tTk tKd
        rw [if_pos hx]
    have h4 := (tEn_gt (b := b) h3).1
    have h5 : tP b T (n + 1) = tEn b T (tSt b T n) := rfl
    omega
  have all : ∀ d i, i + d + 1 ≤ eT b T → tSt b T i < tSt b T (i + d + 1) := by
    intro d
    induction d with
    | zero => intro i hi; exact st i (by omega)
    | succ d ih =>
      intro i hi
      have h1 := ih i (by omega)
      have h2 := st (i + d + 1) (by omega)
      show _ < tSt b T (i + d + 1 + 1)
      omega
  intro i j hij hj
  have h1 := all (j - i - 1) i (by omega)
  rw [show i + (j - i - 1) + 1 = j by omega] at h1
  have h2 := tP_le (b := b) (T := T) (n := i)
  have h3 := tP_le (b := b) (T := T) (n := j)
  unfold tPl
  exact (nI_ltI (by omega) (by omega)).mpr h1
