/-- a law's code: (0, a number), (1, a variable), (2 .. 5, +, -, *, /) -/
abbrev Cd : Type := List (Nat × Int32)
def opV (k : Nat) (a b : Int32) : Int32 := if k = 2 then a + b else if k = 3 then a - b else if k = 4 then a * b else a / b
def rn (v : Nat → Int32) : Cd → List Int32 → Option (List Int32)
  | [], s => some s
  | (k, x) :: c, s => if k = 0 then rn v c (x :: s) else if k = 1 then rn v c (v x.toNatClampNeg :: s) else match s with
    | b :: a :: s' => if k = 5 ∧ b = 0 then none else rn v c (opV k a b :: s')
    | _ => none
/-- it goes from depth d to d', never below lo + 1, never above M -/
def dpx (lo M : Nat) : Cd → Nat → Nat → Prop
  | [], d, d' => d = d'
  | (k, x) :: c, d, d' => if k < 2 then d < M ∧ (k = 1 → ∃ j, j < 9 ∧ x = nI j) ∧ dpx lo M c (d + 1) d' else k < 6 ∧ lo + 2 ≤ d ∧ dpx lo M c (d - 1) d'
theorem dpx_app {lo M : Nat} {c1 c2 : Cd} {d d1 d2 : Nat} (h1 : dpx lo M c1 d d1) (h2 : dpx lo M c2 d1 d2) : dpx lo M (c1 ++ c2) d d2 := by
  induction c1 generalizing d with
  | nil => have : d = d1 := h1; subst this; exact h2
  | cons p c1 ih =>
    obtain ⟨k, x⟩ := p
    show dpx lo M ((k, x) :: (c1 ++ c2)) d d2
    have h1' : (if k < 2 then d < M ∧ (k = 1 → ∃ j, j < 9 ∧ x = nI j) ∧ dpx lo M c1 (d + 1) d1 else k < 6 ∧ lo + 2 ≤ d ∧ dpx lo M c1 (d - 1) d1) := h1
    show (if k < 2 then d < M ∧ (k = 1 → ∃ j, j < 9 ∧ x = nI j) ∧ dpx lo M (c1 ++ c2) (d + 1) d2 else k < 6 ∧ lo + 2 ≤ d ∧ dpx lo M (c1 ++ c2) (d - 1) d2)
    by_cases hk : k < 2
    · rw [if_pos hk] at h1' ⊢
      exact ⟨h1'.1, h1'.2.1, ih h1'.2.2⟩
    · rw [if_neg hk] at h1' ⊢
      exact ⟨h1'.1, h1'.2.1, ih h1'.2.2⟩
theorem dpx_mono {lo lo' M M' : Nat} {c : Cd} {d d' : Nat} (hl : lo ≤ lo') (hM : M' ≤ M) (h : dpx lo' M' c d d') : dpx lo M c d d' := by
  induction c generalizing d with
  | nil => exact h
  | cons p c ih =>
    obtain ⟨k, x⟩ := p
    have h' : (if k < 2 then d < M' ∧ (k = 1 → ∃ j, j < 9 ∧ x = nI j) ∧ dpx lo' M' c (d + 1) d' else k < 6 ∧ lo' + 2 ≤ d ∧ dpx lo' M' c (d - 1) d') := h
    show (if k < 2 then d < M ∧ (k = 1 → ∃ j, j < 9 ∧ x = nI j) ∧ dpx lo M c (d + 1) d' else k < 6 ∧ lo + 2 ≤ d ∧ dpx lo M c (d - 1) d')
    by_cases hk : k < 2
    · rw [if_pos hk] at h' ⊢
      exact ⟨by omega, h'.2.1, ih h'.2.2⟩
    · rw [if_neg hk] at h' ⊢
      exact ⟨h'.1, by omega, ih h'.2.2⟩
/-- an expression's code, which needs m places -/
def EX (m : Nat) (c : Cd) : Prop := ∀ lo M, lo + m ≤ M → dpx lo M c lo (lo + 1)
theorem EX_mono {m m' : Nat} {c : Cd} (h : EX m c) (hm : m ≤ m') : EX m' c := fun lo M hM => h lo M (by omega)
theorem EX_op {m : Nat} {c1 c2 : Cd} {k : Nat} {x : Int32} (h1 : EX (m + 1) c1) (h2 : EX m c2) (hk : 2 ≤ k) (hk6 : k < 6) : EX (m + 1) (c1 ++ c2 ++ [(k, x)]) := by
  intro lo M hM
  refine dpx_app (dpx_app (h1 lo M hM) (dpx_mono (show lo ≤ lo + 1 by omega) (Nat.le_refl _) (h2 (lo + 1) M (by omega)))) ?_
  show (if k < 2 then _ else k < 6 ∧ lo + 2 ≤ lo + 1 + 1 ∧ lo + 1 + 1 - 1 = lo + 1)
  rw [if_neg (by omega)]
  exact ⟨hk6, by omega, by omega⟩
theorem EX_int {x : Int32} : EX 1 [(0, x)] := by
  intro lo M hM
  show (if 0 < 2 then lo < M ∧ ((0 : Nat) = 1 → ∃ j, j < 9 ∧ x = nI j) ∧ lo + 1 = lo + 1 else _)
  rw [if_pos (by omega)]
  exact ⟨by omega, fun h => by omega, rfl⟩
theorem EX_var {j : Nat} (hj : j < 9) : EX 1 [(1, nI j)] := by
  intro lo M hM
  show (if 1 < 2 then lo < M ∧ ((1 : Nat) = 1 → ∃ i, i < 9 ∧ nI j = nI i) ∧ lo + 1 = lo + 1 else _)
  rw [if_pos (by omega)]
  exact ⟨by omega, fun _ => ⟨j, hj, rfl⟩, rfl⟩
/-- what lies below isn't looked at -/
theorem rn_low {v : Nat → Int32} {lo M : Nat} {c : Cd} {d' : Nat} {s t : List Int32} (h : dpx lo M c (s.length + lo) d') (ht : t.length = lo) : rn v c (s ++ t) = (rn v c s).map (· ++ t) ∧ ∀ s', rn v c s = some s' → s'.length + lo = d' := by
  induction c generalizing s with
  | nil =>
    have h0 : s.length + lo = d' := h
    exact ⟨rfl, fun s' hs => by cases hs; exact h0⟩
  | cons p c ih =>
    obtain ⟨k, x⟩ := p
    have h' : (if k < 2 then s.length + lo < M ∧ (k = 1 → ∃ j, j < 9 ∧ x = nI j) ∧ dpx lo M c (s.length + lo + 1) d' else k < 6 ∧ lo + 2 ≤ s.length + lo ∧ dpx lo M c (s.length + lo - 1) d') := h
    by_cases hk : k < 2
    · rw [if_pos hk] at h'
      have hpush : ∀ y : Int32, rn v c (y :: s ++ t) = (rn v c (y :: s)).map (· ++ t) ∧ ∀ s', rn v c (y :: s) = some s' → s'.length + lo = d' := fun y => ih (s := y :: s) (by rw [List.length_cons, show s.length + 1 + lo = s.length + lo + 1 by omega]; exact h'.2.2)
      by_cases hk0 : k = 0
      · subst hk0; exact hpush x
      · have hk1 : k = 1 := by omega
        subst hk1
        exact hpush (v x.toNatClampNeg)
    · rw [if_neg hk] at h'
      have e0 : ∀ u, rn v ((k, x) :: c) u = (match u with | b :: a :: s' => if k = 5 ∧ b = 0 then none else rn v c (opV k a b :: s') | _ => none) := by
        intro u
        show (if k = 0 then _ else if k = 1 then _ else _) = _
        rw [if_neg (by omega), if_neg (by omega)]
      match s, h' with
      | [], h' => exfalso; have := h'.2.1; rw [List.length_nil] at this; omega
      | [b], h' => exfalso; have := h'.2.1; rw [List.length_cons, List.length_nil] at this; omega
      | b :: a :: s, h' =>
        rw [e0, e0]
        show (if k = 5 ∧ b = 0 then none else rn v c (opV k a b :: (s ++ t))) = Option.map (fun x => x ++ t) (if k = 5 ∧ b = 0 then none else rn v c (opV k a b :: s)) ∧ ∀ s', (if k = 5 ∧ b = 0 then none else rn v c (opV k a b :: s)) = some s' → s'.length + lo = d'
        by_cases hz : k = 5 ∧ b = 0
        · rw [if_pos hz, if_pos hz]
          exact ⟨rfl, fun s' hs => by cases hs⟩
        · rw [if_neg hz, if_neg hz]
          exact ih (s := opV k a b :: s) (by
            have := h'.2.2
            rw [List.length_cons, List.length_cons] at this
            rw [List.length_cons, show s.length + 1 + lo = s.length + 1 + 1 + lo - 1 by omega]; exact this)
def ev1 (v : Nat → Int32) (c : Cd) : Option Int32 := match rn v c [] with
  | some [x] => some x
  | _ => none
theorem EX_rn {v : Nat → Int32} {m : Nat} {c : Cd} (h : EX m c) (t : List Int32) : rn v c t = (ev1 v c).map (fun x => x :: t) := by
  have h0 := h t.length (t.length + m) (Nat.le_refl _)
  have h1 := rn_low (v := v) (s := []) (t := t) (lo := t.length) (M := t.length + m) (c := c) (d' := t.length + 1) (by rw [List.length_nil, Nat.zero_add]; exact h0) rfl
  rw [List.nil_append] at h1
  rw [h1.1]
  unfold ev1
  cases e : rn v c [] with
  | none => rfl
  | some s' =>
    have := h1.2 s' e
    match s', this with
    | [], this => simp at this
    | [x], _ => rfl
    | x :: y :: z, this => simp at this; omega
/-- a law: if's, then the last one -/
def lvL (v : Nat → Int32) : List (Cd × Cd × Cd) → Cd → Int32
  | [], cf => (ev1 v cf).getD 0
  | (c1, c2, c3) :: bs, cf => match ev1 v c1, ev1 v c2 with
    | some x, some y => if x < y then (ev1 v c3).getD 0 else lvL v bs cf
    | _, _ => 0
/-- the class's step of a code -/
def stpC (p : Nat × Int32) : Int32 := if p.1 = 0 then 9 else if p.1 = 1 then (([0, 1, 2, 3, 4, 7, 8, 5, 6] : List Int32).getD p.2.toNatClampNeg 0) else nI (p.1 + 8)
def SegC (μ : Mem) (q i : Nat) (c : Cd) : Prop := ∀ k p, c[k]? = some p → μ.1 (q + 1) (i + k) = stpC p ∧ (p.1 = 0 → μ.1 (q + 2) (i + k) = p.2)
def SegM (ν : Mem) (i : Nat) (c : Cd) : Prop := ∀ k p, c[k]? = some p → ν.1 26 (i + k) = nI p.1 ∧ ν.1 27 (i + k) = p.2
theorem SegC_tl {μ : Mem} {q i : Nat} {p : Nat × Int32} {c : Cd} (h : SegC μ q i (p :: c)) : SegC μ q (i + 1) c := by
  intro k p' hp
  have := h (k + 1) p' (by rw [List.getElem?_cons_succ]; exact hp)
  rw [show i + 1 + k = i + (k + 1) by omega]
  exact this
theorem SegM_tl {ν : Mem} {i : Nat} {p : Nat × Int32} {c : Cd} (h : SegM ν i (p :: c)) : SegM ν (i + 1) c := by
  intro k p' hp
  have := h (k + 1) p' (by rw [List.getElem?_cons_succ]; exact hp)
  rw [show i + 1 + k = i + (k + 1) by omega]
  exact this
def StC (μ : Mem) (j : Nat) (s : List Int32) : Prop := ∀ i x, s[i]? = some x → μ.1 j (s.length - 1 - i) = x
theorem StC_push {μ : Mem} {j : Nat} {s : List Int32} {x : Int32} (h : StC μ j s) : StC (upI μ j s.length x) j (x :: s) := by
  intro i y hi
  rw [List.length_cons]
  cases i with
  | zero =>
    simp at hi
    subst hi
    rw [show s.length + 1 - 1 - 0 = s.length by omega, rd_Is]
  | succ i =>
    rw [List.getElem?_cons_succ] at hi
    have hl : i < s.length := by
      rcases Nat.lt_or_ge i s.length with h1 | h1
      · exact h1
      · rw [List.getElem?_eq_none h1] at hi; cases hi
    rw [show s.length + 1 - 1 - (i + 1) = s.length - 1 - i by omega, rd_Ik (by omega)]
    exact h i y hi
theorem StC_op {μ : Mem} {j : Nat} {s : List Int32} {a b x : Int32} (h : StC μ j (b :: a :: s)) : StC (upI μ j s.length x) j (x :: s) := by
  refine StC_push (fun i y hi => ?_)
  have hl : i < s.length := by
    rcases Nat.lt_or_ge i s.length with h1 | h1
    · exact h1
    · rw [List.getElem?_eq_none h1] at hi; cases hi
  have := h (i + 2) y (by rw [List.getElem?_cons_succ, List.getElem?_cons_succ]; exact hi)
  rw [List.length_cons, List.length_cons, show s.length + 1 + 1 - 1 - (i + 2) = s.length - 1 - i by omega] at this
  exact this
theorem StC_ab {μ : Mem} {j : Nat} {s : List Int32} {a b : Int32} (h : StC μ j (b :: a :: s)) : μ.1 j s.length = a ∧ μ.1 j (s.length + 1) = b := by
  have h0 := h 0 b rfl
  have h1 := h 1 a rfl
  rw [List.length_cons, List.length_cons] at h0 h1
  rw [show s.length + 1 + 1 - 1 - 0 = s.length + 1 by omega] at h0
  rw [show s.length + 1 + 1 - 1 - 1 = s.length by omega] at h1
  exact ⟨h1, h0⟩
