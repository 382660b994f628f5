theorem SegC_mv {μ μ' : Mem} {q q' i : Nat} {c : Cd} (h : SegC μ q i c) (h1 : ∀ j, j < i + c.length → μ'.1 (q' + 1) j = μ.1 (q + 1) j ∧ μ'.1 (q' + 2) j = μ.1 (q + 2) j) : SegC μ' q' i c := by
  intro k p hp
  have := len_of hp
  have e := h1 (i + k) (by omega)
  rw [e.1, e.2]
  exact h k p hp
theorem LayC_mv {μ μ' : Mem} {q q' sz : Nat} {bs : Bs} {cf : Cd} : ∀ {i : Nat}, LayC μ q sz bs i cf → (∀ j, j < sz → μ'.1 (q' + 1) j = μ.1 (q + 1) j ∧ μ'.1 (q' + 2) j = μ.1 (q + 2) j) → LayC μ' q' sz bs i cf := by
  induction bs with
  | nil =>
    intro i h hk
    obtain ⟨a1, a2, a3⟩ := h
    exact ⟨SegC_mv a1 (fun j hj => hk j (by omega)), by rw [(hk _ a3).1]; exact a2, a3⟩
  | cons b bs ih =>
    intro i h hk
    obtain ⟨c1, c2, c3⟩ := b
    have hlt := LayC_lt h.2.2.2.2.2.2
    obtain ⟨a1, a2, a3, a4, a5, a6, a7⟩ := h
    exact ⟨SegC_mv a1 (fun j hj => hk j (by omega)), SegC_mv a2 (fun j hj => hk j (by omega)), by rw [(hk _ (by omega)).1]; exact a3, by rw [(hk _ (by omega)).2]; exact a4, SegC_mv a5 (fun j hj => hk j (by omega)), by rw [(hk _ (by omega)).1]; exact a6, ih a7 hk⟩
theorem oor_f {j : Nat} {v : Int32} (h : oor j v = false) : xLEAST j ≤ v ∧ v ≤ xMOST j := by
  unfold oor at h
  rw [Bool.or_eq_false_iff] at h
  exact ⟨Int32.not_lt.mp (of_decide_eq_false h.1), Int32.not_lt.mp (of_decide_eq_false h.2)⟩
theorem oor_0 {v : Int32} (h : oor 0 v = false) : 1 ≤ v ∧ v ≤ 20 := by
  have e := oor_f h
  rw [show xLEAST 0 = 1 from by decide, show xMOST 0 = 20 from by decide] at e
  exact e
theorem oor_1 {v : Int32} (h : oor 1 v = false) : 0 ≤ v ∧ v ≤ 99 := by
  have e := oor_f h
  rw [show xLEAST 1 = 0 from by decide, show xMOST 1 = 99 from by decide] at e
  exact e
theorem oor_2 {v : Int32} (h : oor 2 v = false) : 0 ≤ v ∧ v ≤ 999 := by
  have e := oor_f h
  rw [show xLEAST 2 = 0 from by decide, show xMOST 2 = 999 from by decide] at e
  exact e
theorem oor_3 {v : Int32} (h : oor 3 v = false) : 0 ≤ v ∧ v ≤ 99 := by
  have e := oor_f h
  rw [show xLEAST 3 = 0 from by decide, show xMOST 3 = 99 from by decide] at e
  exact e
theorem oor_4 {v : Int32} (h : oor 4 v = false) : 0 ≤ v ∧ v ≤ 99 := by
  have e := oor_f h
  rw [show xLEAST 4 = 0 from by decide, show xMOST 4 = 99 from by decide] at e
  exact e
theorem oor_5 {v : Int32} (h : oor 5 v = false) : 0 ≤ v ∧ v ≤ 999 := by
  have e := oor_f h
  rw [show xLEAST 5 = 0 from by decide, show xMOST 5 = 999 from by decide] at e
  exact e
theorem oor_6 {v : Int32} (h : oor 6 v = false) : 1 ≤ v ∧ v ≤ 99 := by
  have e := oor_f h
  rw [show xLEAST 6 = 1 from by decide, show xMOST 6 = 99 from by decide] at e
  exact e
theorem R0_cg {h : Nat} {a b a' b' : Nat → Int32} {c : Int32} (h1 : ∀ i, i < h → a i = a' i) (h2 : ∀ i, i < h → b i = b' i) (k : Nat) : R0 h a b c k = R0 h a' b' c k := by
  unfold R0
  by_cases c1 : 6 ≤ k ∧ k < 6 + h
  · rw [if_pos c1, if_pos c1]; exact h1 _ (by omega)
  · rw [if_neg c1, if_neg c1]
    by_cases c2 : 12 ≤ k ∧ k < 12 + h
    · rw [if_pos c2, if_pos c2]; exact h2 _ (by omega)
    · rw [if_neg c2, if_neg c2]
def wR (D : Nat → Bs × Cd) (h : Nat) (vs : Nat → Nat → Int32) (nb : Nat → Int32) : Kw := (fun k v => lvL v (D k).1 (D k).2, h, fun i => if i < h then vs i 0 else 0, fun i => vs i 3, fun i => vs i 4, nb 1, nb 2, nb 3)
def rR (h : Nat) (vs : Nat → Nat → Int32) (nb : Nat → Int32) : Rw := R0 h (fun i => vs i 1) (fun i => vs i 2) (nb 0)
theorem rR_a {h i : Nat} {vs : Nat → Nat → Int32} {nb : Nat → Int32} (hi : i < 6) (hh : h ≤ 6) : rR h vs nb (6 + i) = if i < h then vs i 1 else 0 := by
  unfold rR R0
  by_cases h1 : i < h
  · rw [if_pos (by omega), if_pos h1, show 6 + i - 6 = i by omega]
  · rw [if_neg (by omega), if_neg (by omega), if_neg (by omega), if_neg h1]
theorem rR_b {h i : Nat} {vs : Nat → Nat → Int32} {nb : Nat → Int32} (hi : i < 6) (hh : h ≤ 6) : rR h vs nb (12 + i) = if i < h then vs i 2 else 0 := by
  unfold rR R0
  by_cases h1 : i < h
  · rw [if_neg (by omega), if_pos (by omega), if_pos h1, show 12 + i - 12 = i by omega]
  · rw [if_neg (by omega), if_neg (by omega), if_neg (by omega), if_neg h1]
theorem rR_z {h k : Nat} {vs : Nat → Nat → Int32} {nb : Nat → Int32} (hh : h ≤ 6) (hk : k < 6 ∨ 18 ≤ k) (h37 : k ≠ 37) : rR h vs nb k = 0 := by
  unfold rR R0
  rw [if_neg (by omega), if_neg (by omega), if_neg h37]
theorem rR_c {h : Nat} {vs : Nat → Nat → Int32} {nb : Nat → Int32} (hh : h ≤ 6) : rR h vs nb 37 = nb 0 := by
  unfold rR R0
  rw [if_neg (by omega), if_neg (by omega), if_pos rfl]
theorem KZ_R {D : Nat → Bs × Cd} {e t h : Nat} {vs : Nat → Nat → Int32} {nb : Nat → Int32} (hP : PuD e t h none vs nb) : KZ (wR D h vs nb) := by
  obtain ⟨p1, p2, p3, p4⟩ := hP
  obtain ⟨v, n⟩ := p4 rfl
  have v0 : ∀ i, i < h → 1 ≤ vs i 0 ∧ vs i 0 ≤ 20 := fun i hi => oor_0 (v i hi 0 (by omega))
  have v3 : ∀ i, i < h → 0 ≤ vs i 3 ∧ vs i 3 ≤ 99 := fun i hi => oor_3 (v i hi 3 (by omega))
  have v4 : ∀ i, i < h → 0 ≤ vs i 4 ∧ vs i 4 ≤ 99 := fun i hi => oor_4 (v i hi 4 (by omega))
  have n1 : 1 ≤ nb 1 ∧ nb 1 ≤ 99 := oor_6 (n 1 (by omega))
  unfold KZ KW
  rw [show kn (wR D h vs nb) = h from rfl, show kp (wR D h vs nb) = (fun i => if i < h then vs i 0 else 0) from rfl, show kx (wR D h vs nb) = (fun i => vs i 3) from rfl, show ky (wR D h vs nb) = (fun i => vs i 4) from rfl, show kroof (wR D h vs nb) = nb 1 from rfl]
  refine ⟨⟨p2, fun i => ?_, fun i hi => ?_⟩, fun i hi => ?_, fun i hi => ⟨v3 i hi, v4 i hi⟩, n1⟩
  · dsimp only
    by_cases c : i < h
    · rw [if_pos c]; exact ⟨Int32.le_trans (by decide) (v0 i c).1, (v0 i c).2⟩
    · rw [if_neg c]; exact ⟨by decide, by decide⟩
  · dsimp only
    rw [if_neg (by omega)]
  · dsimp only
    rw [if_pos hi]; exact (v0 i hi).1
theorem GS_R {D : Nat → Bs × Cd} {e t h : Nat} {vs : Nat → Nat → Int32} {nb : Nat → Int32} (hP : PuD e t h none vs nb) : GS (wR D h vs nb) (rR h vs nb) := by
  obtain ⟨p1, p2, p3, p4⟩ := hP
  obtain ⟨v, n⟩ := p4 rfl
  have v1 : ∀ i, i < h → 0 ≤ vs i 1 ∧ vs i 1 ≤ 99 := fun i hi => oor_1 (v i hi 1 (by omega))
  have v2 : ∀ i, i < h → 0 ≤ vs i 2 ∧ vs i 2 ≤ 999 := fun i hi => oor_2 (v i hi 2 (by omega))
  have n0 : 0 ≤ nb 0 ∧ nb 0 ≤ 999 := oor_5 (n 0 (by omega))
  unfold GS RG
  rw [show kn (wR D h vs nb) = h from rfl, rR_c p2]
  refine ⟨fun i hi => ⟨?_, ?_, Or.inl ?_, ?_⟩, ⟨n0.1, Int32.le_trans n0.2 (by decide)⟩, fun i hi h6 => ?_⟩
  · rw [rR_a hi p2]
    by_cases c : i < h
    · rw [if_pos c]; exact ⟨(v1 i c).1, Int32.le_trans (v1 i c).2 (by decide)⟩
    · rw [if_neg c]; exact ⟨by decide, by decide⟩
  · rw [rR_b hi p2]
    by_cases c : i < h
    · rw [if_pos c]; exact v2 i c
    · rw [if_neg c]; exact ⟨by decide, by decide⟩
  · exact rR_z p2 (by omega) (by omega)
  · rw [rR_z p2 (by omega) (by omega)]; exact ⟨by decide, by decide⟩
  · rw [rR_b h6 p2, if_neg (by omega)]
