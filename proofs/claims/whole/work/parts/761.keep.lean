theorem LayC_keep {μ μ' : Mem} {q sz sz' : Nat} {bs : Bs} {cf : Cd} : ∀ {i : Nat}, LayC μ q sz bs i cf → sz ≤ sz' → (∀ j, j < sz → μ'.1 (q + 1) j = μ.1 (q + 1) j ∧ μ'.1 (q + 2) j = μ.1 (q + 2) j) → LayC μ' q sz' bs i cf := by
  induction bs with
  | nil =>
    intro i h hs hk
    obtain ⟨a1, a2, a3⟩ := h
    exact ⟨SegC_keep a1 (fun j hj => (hk j (by omega)).1) (fun j hj => (hk j (by omega)).2), by rw [(hk _ a3).1]; exact a2, by omega⟩
  | cons b bs ih =>
    intro i h hs hk
    obtain ⟨c1, c2, c3⟩ := b
    have hlt := LayC_lt h.2.2.2.2.2.2
    obtain ⟨a1, a2, a3, a4, a5, a6, a7⟩ := h
    exact ⟨SegC_keep a1 (fun j hj => (hk j (by omega)).1) (fun j hj => (hk j (by omega)).2), SegC_keep a2 (fun j hj => (hk j (by omega)).1) (fun j hj => (hk j (by omega)).2), by rw [(hk _ (by omega)).1]; exact a3, by rw [(hk _ (by omega)).2]; exact a4, SegC_keep a5 (fun j hj => (hk j (by omega)).1) (fun j hj => (hk j (by omega)).2), by rw [(hk _ (by omega)).1]; exact a6, ih a7 hs hk⟩
/-- one more branch behind others -/
theorem LayC_snoc {μ : Mem} {q sz : Nat} {c1 c2 c3 : Cd} : ∀ {bs : Bs} {i j : Nat} {cf : Cd}, (∀ cf' : Cd, LayC μ q sz ((c1, c2, c3) :: []) j cf' → LayC μ q sz (bs ++ [(c1, c2, c3)]) i cf') → LayC μ q sz [(c1, c2, c3)] j cf → LayC μ q sz (bs ++ [(c1, c2, c3)]) i cf := fun h h2 => h _ h2
/-- the branches of a law that is being read: they lie from i to j -/
def PreC (μ : Mem) (q : Nat) : Bs → Nat → Nat → Prop
  | [], i, j => i = j
  | (c1, c2, c3) :: bs, i, j => SegC μ q i c1 ∧ SegC μ q (i + c1.length) c2 ∧ μ.1 (q + 1) (i + c1.length + c2.length) = 14 ∧ μ.1 (q + 2) (i + c1.length + c2.length) = nI (i + c1.length + c2.length + c3.length + 2) ∧ SegC μ q (i + c1.length + c2.length + 1) c3 ∧ μ.1 (q + 1) (i + c1.length + c2.length + 1 + c3.length) = 15 ∧ PreC μ q bs (i + c1.length + c2.length + c3.length + 2) j
theorem PreC_le {μ : Mem} {q : Nat} {bs : Bs} : ∀ {i j : Nat}, PreC μ q bs i j → i ≤ j := by
  induction bs with
  | nil => intro i j h; exact Nat.le_of_eq h
  | cons b bs ih =>
    intro i j h
    obtain ⟨c1, c2, c3⟩ := b
    have := ih h.2.2.2.2.2.2
    omega
theorem PreC_keep {μ μ' : Mem} {q : Nat} {bs : Bs} : ∀ {i j : Nat}, PreC μ q bs i j → (∀ k, k < j → μ'.1 (q + 1) k = μ.1 (q + 1) k ∧ μ'.1 (q + 2) k = μ.1 (q + 2) k) → PreC μ' q bs i j := by
  induction bs with
  | nil => intro i j h _; exact h
  | cons b bs ih =>
    intro i j h hk
    obtain ⟨c1, c2, c3⟩ := b
    have hle := PreC_le h.2.2.2.2.2.2
    obtain ⟨a1, a2, a3, a4, a5, a6, a7⟩ := h
    exact ⟨SegC_keep a1 (fun k hj => (hk k (by omega)).1) (fun k hj => (hk k (by omega)).2), SegC_keep a2 (fun k hj => (hk k (by omega)).1) (fun k hj => (hk k (by omega)).2), by rw [(hk _ (by omega)).1]; exact a3, by rw [(hk _ (by omega)).2]; exact a4, SegC_keep a5 (fun k hj => (hk k (by omega)).1) (fun k hj => (hk k (by omega)).2), by rw [(hk _ (by omega)).1]; exact a6, ih a7 hk⟩
theorem PreC_snoc {μ : Mem} {q : Nat} {b : Cd × Cd × Cd} {bs : Bs} : ∀ {i j k : Nat}, PreC μ q bs i j → PreC μ q [b] j k → PreC μ q (bs ++ [b]) i k := by
  induction bs with
  | nil => intro i j k h h2; have : i = j := h; subst this; exact h2
  | cons b' bs ih =>
    intro i j k h h2
    obtain ⟨c1, c2, c3⟩ := b'
    obtain ⟨a1, a2, a3, a4, a5, a6, a7⟩ := h
    exact ⟨a1, a2, a3, a4, a5, a6, ih a7 h2⟩
theorem PreC_Lay {μ : Mem} {q sz : Nat} {bs : Bs} {cf : Cd} : ∀ {i j : Nat}, PreC μ q bs i j → LayC μ q sz [] j cf → LayC μ q sz bs i cf := by
  induction bs with
  | nil => intro i j h h2; have : i = j := h; subst this; exact h2
  | cons b bs ih =>
    intro i j h h2
    obtain ⟨c1, c2, c3⟩ := b
    obtain ⟨a1, a2, a3, a4, a5, a6, a7⟩ := h
    exact ⟨a1, a2, a3, a4, a5, a6, ih a7 h2⟩
/-- the same in the model: branches b0 .. b1, whose code lies ahead of ec -/
def BrM (ν : Mem) (L ec : Nat) (p : Cd × Cd × Cd) (b : Nat) : Prop := ν.1 21 b = 1 ∧ ∃ e, (420 * L ≤ e ∧ e + p.1.length + p.2.1.length + p.2.2.length ≤ ec) ∧ ν.1 22 b = nI e ∧ ν.1 23 b = nI (e + p.1.length) ∧ ν.1 24 b = nI (e + p.1.length + p.2.1.length) ∧ ν.1 25 b = nI (e + p.1.length + p.2.1.length + p.2.2.length) ∧ SegM ν e p.1 ∧ SegM ν (e + p.1.length) p.2.1 ∧ SegM ν (e + p.1.length + p.2.1.length) p.2.2
def PreM (ν : Mem) (L ec : Nat) (bs : Bs) (b : Nat) : Prop := ∀ k p, bs[k]? = some p → BrM ν L ec p (b + k)
theorem BrM_keep {ν ν' : Mem} {L ec ec' b : Nat} {p : Cd × Cd × Cd} (h : BrM ν L ec p b) (he : ec ≤ ec') (h1 : ∀ j, 21 ≤ j → j ≤ 25 → ν'.1 j b = ν.1 j b) (h2 : ∀ i, 420 * L ≤ i → i < ec → ν'.1 26 i = ν.1 26 i ∧ ν'.1 27 i = ν.1 27 i) : BrM ν' L ec' p b := by
  obtain ⟨a1, e, a2, a3, a4, a5, a6, a7, a8, a9⟩ := h
  refine ⟨by rw [h1 21 (by omega) (by omega)]; exact a1, e, ⟨a2.1, by omega⟩, by rw [h1 22 (by omega) (by omega)]; exact a3, by rw [h1 23 (by omega) (by omega)]; exact a4, by rw [h1 24 (by omega) (by omega)]; exact a5, by rw [h1 25 (by omega) (by omega)]; exact a6, SegM_in a7 (fun i x y => (h2 i (by omega) (by omega)).1) (fun i x y => (h2 i (by omega) (by omega)).2), SegM_in a8 (fun i x y => (h2 i (by omega) (by omega)).1) (fun i x y => (h2 i (by omega) (by omega)).2), SegM_in a9 (fun i x y => (h2 i (by omega) (by omega)).1) (fun i x y => (h2 i (by omega) (by omega)).2)⟩
theorem PreM_keep {ν ν' : Mem} {L ec ec' b : Nat} {bs : Bs} (h : PreM ν L ec bs b) (he : ec ≤ ec') (h1 : ∀ j, 21 ≤ j → j ≤ 25 → ∀ i, b ≤ i → i < b + bs.length → ν'.1 j i = ν.1 j i) (h2 : ∀ i, 420 * L ≤ i → i < ec → ν'.1 26 i = ν.1 26 i ∧ ν'.1 27 i = ν.1 27 i) : PreM ν' L ec' bs b := by
  intro k p hp
  have hk : k < bs.length := by
    rcases Nat.lt_or_ge k bs.length with hx | hx
    · exact hx
    · rw [List.getElem?_eq_none hx] at hp; cases hp
  exact BrM_keep (h k p hp) he (fun j a c => h1 j a c _ (by omega) (by omega)) h2
theorem PreM_snoc {ν : Mem} {L ec b : Nat} {bs : Bs} {p : Cd × Cd × Cd} (h : PreM ν L ec bs b) (hp : BrM ν L ec p (b + bs.length)) : PreM ν L ec (bs ++ [p]) b := by
  intro k q hq
  rcases Nat.lt_or_ge k bs.length with hk | hk
  · rw [List.getElem?_append_left hk] at hq
    exact h k q hq
  · rw [List.getElem?_append_right hk] at hq
    have hk0 : k - bs.length = 0 := by
      rcases Nat.eq_zero_or_pos (k - bs.length) with hx | hx
      · exact hx
      · rw [List.getElem?_eq_none (by rw [List.length_cons, List.length_nil]; omega)] at hq; cases hq
    rw [hk0] at hq
    cases hq
    rw [show b + k = b + bs.length by omega]
    exact hp
/-- a told law of the model, within bc branches and ec codes -/
def LayN (ν : Mem) (L bc ec : Nat) (D : Bs × Cd) (b : Nat) : Prop := (130 * L ≤ b ∧ b + D.1.length < bc) ∧ PreM ν L ec D.1 b ∧ ν.1 21 (b + D.1.length) = 0 ∧ ∃ e, (420 * L ≤ e ∧ e + D.2.length ≤ ec) ∧ ν.1 24 (b + D.1.length) = nI e ∧ ν.1 25 (b + D.1.length) = nI (e + D.2.length) ∧ SegM ν e D.2
theorem LayN_keep {ν ν' : Mem} {L bc ec bc' ec' b : Nat} {D : Bs × Cd} (h : LayN ν L bc ec D b) (hb : bc ≤ bc') (he : ec ≤ ec') (h1 : ∀ j, 21 ≤ j → j ≤ 25 → ∀ i, 130 * L ≤ i → i < bc → ν'.1 j i = ν.1 j i) (h2 : ∀ i, 420 * L ≤ i → i < ec → ν'.1 26 i = ν.1 26 i ∧ ν'.1 27 i = ν.1 27 i) : LayN ν' L bc' ec' D b := by
  obtain ⟨a1, a2, a3, e, a4, a5, a6, a7⟩ := h
  exact ⟨⟨a1.1, by omega⟩, PreM_keep a2 he (fun j x y i u v => h1 j x y i (by omega) (by omega)) h2, by rw [h1 21 (by omega) (by omega) _ (by omega) a1.2]; exact a3, e, ⟨a4.1, by omega⟩, by rw [h1 24 (by omega) (by omega) _ (by omega) a1.2]; exact a5, by rw [h1 25 (by omega) (by omega) _ (by omega) a1.2]; exact a6, SegM_in a7 (fun i x y => (h2 i (by omega) (by omega)).1) (fun i x y => (h2 i (by omega) (by omega)).2)⟩
theorem LayN_Lay {ν : Mem} {L bc ec : Nat} (hb : bc ≤ 130 * L + 130) (he : ec ≤ 420 * L + 420) {bs : Bs} {cf : Cd} : ∀ {b : Nat}, LayN ν L bc ec (bs, cf) b → LayM ν L bs b cf := by
  induction bs with
  | nil =>
    intro b h
    obtain ⟨a1, a2, a3, e, a4, a5, a6, a7⟩ := h
    dsimp only [List.length_nil, Nat.add_zero] at a1 a3 a4 a5 a6 a7
    exact ⟨⟨a1.1, by omega⟩, a3, e, ⟨a4.1, by omega⟩, a5, a6, a7⟩
  | cons p bs ih =>
    intro b h
    obtain ⟨c1, c2, c3⟩ := p
    obtain ⟨a1, a2, a3, a4⟩ := h
    dsimp only at a1 a2 a3 a4
    rw [List.length_cons] at a1 a3 a4
    obtain ⟨p1, e, p2, p3, p4, p5, p6, p7, p8, p9⟩ := a2 0 (c1, c2, c3) rfl
    rw [Nat.add_zero] at p1 p3 p4 p5 p6
    dsimp only at p2 p4 p5 p6 p7 p8 p9
    refine ⟨⟨a1.1, by omega⟩, p1, ⟨e, ⟨p2.1, by omega⟩, p3, p4, p5, p6, p7, p8, p9⟩, ih ⟨⟨by omega, by dsimp only; omega⟩, ?_, ?_, ?_⟩⟩
    · intro k q hq
      have := a2 (k + 1) q (by rw [List.getElem?_cons_succ]; exact hq)
      rw [show b + 1 + k = b + (k + 1) by omega]
      exact this
    · dsimp only; rw [show b + 1 + bs.length = b + (bs.length + 1) by omega]; exact a3
    · dsimp only; rw [show b + 1 + bs.length = b + (bs.length + 1) by omega]; exact a4
