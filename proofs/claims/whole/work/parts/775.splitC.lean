theorem isBlank_c (c : Int32) : fX8_isBlank c = some (if blB c then 1 else 0) := by
  unfold fX8_isBlank blB
  by_cases h1 : c = 9
  · rw [if_pos h1, decide_eq_true h1]; rfl
  · rw [if_neg h1, decide_eq_false h1]
    by_cases h2 : c = 10
    · rw [if_pos h2, decide_eq_true h2]; rfl
    · rw [if_neg h2, decide_eq_false h2]
      by_cases h3 : c = 13
      · rw [if_pos h3, decide_eq_true h3]; rfl
      · rw [if_neg h3, decide_eq_false h3]
        by_cases h4 : c = 32
        · rw [if_pos h4, decide_eq_true h4]; rfl
        · rw [if_neg h4, decide_eq_false h4]; rfl
theorem isLetter_c (c : Int32) : fX8_isLetter c = some (if leB c then 1 else 0) := by
  unfold fX8_isLetter leB
  by_cases h1 : c < 97
  · rw [if_pos h1, decide_eq_true h1]; rfl
  · rw [if_neg h1, decide_eq_false h1]
    by_cases h2 : 122 < c
    · rw [if_pos h2, decide_eq_true h2]; rfl
    · rw [if_neg h2, decide_eq_false h2]; rfl
theorem isDigit_c (c : Int32) : fX8_isDigit c = some (if diB c then 1 else 0) := by
  unfold fX8_isDigit diB
  by_cases h1 : c < 48
  · rw [if_pos h1, decide_eq_true h1]; rfl
  · rw [if_neg h1, decide_eq_false h1]
    by_cases h2 : 57 < c
    · rw [if_pos h2, decide_eq_true h2]; rfl
    · rw [if_neg h2, decide_eq_false h2]; rfl
def TXc (b : Nat → Int32) (T : Nat) (μ : Mem) : Prop := ∀ i, i < T → μ.1 2 i = b i
theorem eb_s (q n : Nat) (x y : Int32) (μ : Mem) : fX8_endOfBlanks_l2 q x μ (n + 1) y = fX8_endOfBlanks_s2 (fX8_endOfBlanks_l2 q x μ n) q x y μ := rfl
theorem eb_c {b : Nat → Int32} {T : Nat} {μ : Mem} (hT : T ≤ 2000) (hX : TXc b T μ) {r : Nat} : ∀ {i N : Nat}, r + i = T → r < N → fX8_endOfBlanks_l2 2 (nI T) μ N (nI i) = some (nI (eW blB b r i)) := by
  induction r with
  | zero =>
    intro i N hi hN
    obtain ⟨N, rfl⟩ : ∃ n', N = n' + 1 := ⟨N - 1, by omega⟩
    rw [eb_s]
    unfold fX8_endOfBlanks_s2
    rw [if_pos (by simp (disch := omega) only [L_add, L_add2, L_mul, L_mul2, L_sub, nI_add, pk_mul, pk_sub, L_le, L_le2, L_lt, L_lt2, L_eq, L_eq2, nI_leI, nI_ltI, nI_eq, nI_clamp, ix_nI, ix_lit, L_cl]; omega)]
    rfl
  | succ r ih =>
    intro i N hi hN
    obtain ⟨N, rfl⟩ : ∃ n', N = n' + 1 := ⟨N - 1, by omega⟩
    rw [eb_s]
    unfold fX8_endOfBlanks_s2
    rw [if_neg (by simp (disch := omega) only [L_add, L_add2, L_mul, L_mul2, L_sub, nI_add, pk_mul, pk_sub, L_le, L_le2, L_lt, L_lt2, L_eq, L_eq2, nI_leI, nI_ltI, nI_eq, nI_clamp, ix_nI, ix_lit, L_cl]; omega), ix_nI (by omega) (by omega), gd_true, nI_clamp (by omega), hX i (by omega), isBlank_c, b1_some, nI_1, ih (by omega) (by omega)]
    have e : eW blB b (r + 1) i = if blB (b i) = true then eW blB b r (i + 1) else i := rfl
    rw [e]
    by_cases h : blB (b i) = true
    · rw [if_pos h, if_neg n10, if_pos h]
    · rw [if_neg h, if_pos rfl, if_neg h]
theorem r49_s (q n : Nat) (x y : Int32) (μ : Mem) : fX8_endOfRun_l49 q x μ (n + 1) y = fX8_endOfRun_s49 (fX8_endOfRun_l49 q x μ n) q x y μ := rfl
theorem r49_c {b : Nat → Int32} {T : Nat} {μ : Mem} (hT : T ≤ 2000) (hX : TXc b T μ) {r : Nat} : ∀ {i N : Nat}, r + i = T → r < N → fX8_endOfRun_l49 2 (nI T) μ N (nI i) = some (nI (eW diB b r i)) := by
  induction r with
  | zero =>
    intro i N hi hN
    obtain ⟨N, rfl⟩ : ∃ n', N = n' + 1 := ⟨N - 1, by omega⟩
    rw [r49_s]
    unfold fX8_endOfRun_s49
    rw [if_pos (by simp (disch := omega) only [L_add, L_add2, L_mul, L_mul2, L_sub, nI_add, pk_mul, pk_sub, L_le, L_le2, L_lt, L_lt2, L_eq, L_eq2, nI_leI, nI_ltI, nI_eq, nI_clamp, ix_nI, ix_lit, L_cl]; omega)]
    rfl
  | succ r ih =>
    intro i N hi hN
    obtain ⟨N, rfl⟩ : ∃ n', N = n' + 1 := ⟨N - 1, by omega⟩
    rw [r49_s]
    unfold fX8_endOfRun_s49
    rw [if_neg (by simp (disch := omega) only [L_add, L_add2, L_mul, L_mul2, L_sub, nI_add, pk_mul, pk_sub, L_le, L_le2, L_lt, L_lt2, L_eq, L_eq2, nI_leI, nI_ltI, nI_eq, nI_clamp, ix_nI, ix_lit, L_cl]; omega), ix_nI (by omega) (by omega), gd_true, nI_clamp (by omega), hX i (by omega), isDigit_c, b1_some, nI_1, ih (by omega) (by omega)]
    have e : eW diB b (r + 1) i = if diB (b i) = true then eW diB b r (i + 1) else i := rfl
    rw [e]
    by_cases h : diB (b i) = true
    · rw [if_pos h, if_neg n10, if_pos h]
    · rw [if_neg h, if_pos rfl, if_neg h]
theorem r20_s (q n : Nat) (x y : Int32) (μ : Mem) : fX8_endOfRun_l20 q x μ (n + 1) y = fX8_endOfRun_s20 (fX8_endOfRun_l20 q x μ n) q x y μ := rfl
theorem r20_c {b : Nat → Int32} {T : Nat} {μ : Mem} (hT : T ≤ 2000) (hX : TXc b T μ) {r : Nat} : ∀ {i N : Nat}, r + i = T → r < N → fX8_endOfRun_l20 2 (nI T) μ N (nI i) = some (nI (eW leB b r i)) := by
  induction r with
  | zero =>
    intro i N hi hN
    obtain ⟨N, rfl⟩ : ∃ n', N = n' + 1 := ⟨N - 1, by omega⟩
    rw [r20_s]
    unfold fX8_endOfRun_s20
    rw [if_pos (by simp (disch := omega) only [L_add, L_add2, L_mul, L_mul2, L_sub, nI_add, pk_mul, pk_sub, L_le, L_le2, L_lt, L_lt2, L_eq, L_eq2, nI_leI, nI_ltI, nI_eq, nI_clamp, ix_nI, ix_lit, L_cl]; omega)]
    rfl
  | succ r ih =>
    intro i N hi hN
    obtain ⟨N, rfl⟩ : ∃ n', N = n' + 1 := ⟨N - 1, by omega⟩
    rw [r20_s]
    unfold fX8_endOfRun_s20
    rw [if_neg (by simp (disch := omega) only [L_add, L_add2, L_mul, L_mul2, L_sub, nI_add, pk_mul, pk_sub, L_le, L_le2, L_lt, L_lt2, L_eq, L_eq2, nI_leI, nI_ltI, nI_eq, nI_clamp, ix_nI, ix_lit, L_cl]; omega), ix_nI (by omega) (by omega), gd_true, nI_clamp (by omega), hX i (by omega), isLetter_c, b1_some, nI_1, ih (by omega) (by omega)]
    have e : eW leB b (r + 1) i = if leB (b i) = true then eW leB b r (i + 1) else i := rfl
    rw [e]
    by_cases h : leB (b i) = true
    · rw [if_pos h, if_neg n10, if_pos h]
    · rw [if_neg h, if_pos rfl, if_neg h]
theorem endOfRun_c {b : Nat → Int32} {T i : Nat} {μ : Mem} (hT : T ≤ 2000) (hX : TXc b T μ) (hi : i ≤ T) : fX8_endOfRun 2 (nI T) (nI i) μ = some (nI (tEn b T i)) := by
  unfold fX8_endOfRun tEn
  by_cases h : T ≤ i
  · rw [if_neg (by simp (disch := omega) only [L_add, L_add2, L_mul, L_mul2, L_sub, nI_add, pk_mul, pk_sub, L_le, L_le2, L_lt, L_lt2, L_eq, L_eq2, nI_leI, nI_ltI, nI_eq, nI_clamp, ix_nI, ix_lit, L_cl]; omega), if_pos h]
  · rw [if_pos (by simp (disch := omega) only [L_add, L_add2, L_mul, L_mul2, L_sub, nI_add, pk_mul, pk_sub, L_le, L_le2, L_lt, L_lt2, L_eq, L_eq2, nI_leI, nI_ltI, nI_eq, nI_clamp, ix_nI, ix_lit, L_cl]; omega), bd_eq, ix_nI (by omega) (by omega), gd_true, gd_true, nI_clamp (by omega), hX i (by omega), isLetter_c, b1_some, isDigit_c, b1_some, nI_1, r20_c hT hX (r := T - (i + 1)) (by omega) (by unfold FU; omega), r49_c hT hX (r := T - (i + 1)) (by omega) (by unfold FU; omega), if_neg h]
    by_cases h1 : leB (b i) = true
    · rw [if_pos h1, if_neg n10, if_pos h1]
    · rw [if_neg h1, if_pos rfl, if_neg h1]
      by_cases h2 : diB (b i) = true
      · rw [if_pos h2, if_neg n10, if_pos h2]
      · rw [if_neg h2, if_pos rfl, if_neg h2]
theorem nm_s (q n : Nat) (x y : Int32) (z : Int64) (μ : Mem) : fX8_nameOf_l5 q x μ (n + 1) z y = fX8_nameOf_s5 (fX8_nameOf_l5 q x μ n) q x z y μ := rfl
theorem nm_c {b : Nat → Int32} {T j : Nat} {μ : Mem} (hT : T ≤ 2000) (hX : TXc b T μ) (hj : j ≤ T) {r : Nat} : ∀ {i N : Nat} {z : Int64}, r + i = j → r < N → fX8_nameOf_l5 2 (nI j) μ N z (nI i) = some (nmF b r i z) := by
  induction r with
  | zero =>
    intro i N z hi hN
    obtain ⟨N, rfl⟩ : ∃ n', N = n' + 1 := ⟨N - 1, by omega⟩
    rw [nm_s]
    unfold fX8_nameOf_s5
    rw [if_pos (by simp (disch := omega) only [L_add, L_add2, L_mul, L_mul2, L_sub, nI_add, pk_mul, pk_sub, L_le, L_le2, L_lt, L_lt2, L_eq, L_eq2, nI_leI, nI_ltI, nI_eq, nI_clamp, ix_nI, ix_lit, L_cl]; omega)]
    rfl
  | succ r ih =>
    intro i N z hi hN
    obtain ⟨N, rfl⟩ : ∃ n', N = n' + 1 := ⟨N - 1, by omega⟩
    rw [nm_s]
    unfold fX8_nameOf_s5
    rw [if_neg (by simp (disch := omega) only [L_add, L_add2, L_mul, L_mul2, L_sub, nI_add, pk_mul, pk_sub, L_le, L_le2, L_lt, L_lt2, L_eq, L_eq2, nI_leI, nI_ltI, nI_eq, nI_clamp, ix_nI, ix_lit, L_cl]; omega), ix_nI (by omega) (by omega), gd_true, nI_clamp (by omega), hX i (by omega), bd_eq, nI_1 i, ih (by omega) (by omega)]
    rfl
theorem nu_s (q n : Nat) (x y : Int32) (z : Int64) (μ : Mem) : fX8_numberOf_l5 q x μ (n + 1) z y = fX8_numberOf_s5 (fX8_numberOf_l5 q x μ n) q x z y μ := rfl
theorem nu_c {b : Nat → Int32} {T j : Nat} {μ : Mem} (hT : T ≤ 2000) (hX : TXc b T μ) (hj : j ≤ T) {r : Nat} : ∀ {i N : Nat} {z : Int64}, r + i = j → r < N → fX8_numberOf_l5 2 (nI j) μ N z (nI i) = some (nuF b r i z) := by
  induction r with
  | zero =>
    intro i N z hi hN
    obtain ⟨N, rfl⟩ : ∃ n', N = n' + 1 := ⟨N - 1, by omega⟩
    rw [nu_s]
    unfold fX8_numberOf_s5
    rw [if_pos (by simp (disch := omega) only [L_add, L_add2, L_mul, L_mul2, L_sub, nI_add, pk_mul, pk_sub, L_le, L_le2, L_lt, L_lt2, L_eq, L_eq2, nI_leI, nI_ltI, nI_eq, nI_clamp, ix_nI, ix_lit, L_cl]; omega)]
    rfl
  | succ r ih =>
    intro i N z hi hN
    obtain ⟨N, rfl⟩ : ∃ n', N = n' + 1 := ⟨N - 1, by omega⟩
    rw [nu_s]
    unfold fX8_numberOf_s5
    rw [if_neg (by simp (disch := omega) only [L_add, L_add2, L_mul, L_mul2, L_sub, nI_add, pk_mul, pk_sub, L_le, L_le2, L_lt, L_lt2, L_eq, L_eq2, nI_leI, nI_ltI, nI_eq, nI_clamp, ix_nI, ix_lit, L_cl]; omega), ix_nI (by omega) (by omega), gd_true, nI_clamp (by omega), hX i (by omega), bd_eq, nI_1 i, ih (by omega) (by omega)]
    rfl
theorem kn_s (x : Int64) (n : Nat) (y : Int32) (μ : Mem) : fX8_kindOfName_l2 x μ (n + 1) y = fX8_kindOfName_s2 (fX8_kindOfName_l2 x μ n) x y μ := rfl
theorem lgc {a x : Int64} : lg_cmp a x = 0 ↔ a = x := lg_cmp_eq a x
theorem kn_c {x : Int64} {μ : Mem} (hW : ∀ i, i < 21 → μ.2 5 i = WCL.getD i 0) {r : Nat} : ∀ {i N : Nat}, r + i = 21 → r < N → fX8_kindOfName_l2 x μ N (nI i) = some (nI (kdC x r i)) := by
  induction r with
  | zero =>
    intro i N hi hN
    obtain ⟨N, rfl⟩ : ∃ n', N = n' + 1 := ⟨N - 1, by omega⟩
    rw [kn_s]
    unfold fX8_kindOfName_s2
    rw [if_pos (by simp (disch := omega) only [L_add, L_add2, L_mul, L_mul2, L_sub, nI_add, pk_mul, pk_sub, L_le, L_le2, L_lt, L_lt2, L_eq, L_eq2, nI_leI, nI_ltI, nI_eq, nI_clamp, ix_nI, ix_lit, L_cl]; omega)]
    rfl
  | succ r ih =>
    intro i N hi hN
    obtain ⟨N, rfl⟩ : ∃ n', N = n' + 1 := ⟨N - 1, by omega⟩
    rw [kn_s]
    unfold fX8_kindOfName_s2
    rw [if_neg (by simp (disch := omega) only [L_add, L_add2, L_mul, L_mul2, L_sub, nI_add, pk_mul, pk_sub, L_le, L_le2, L_lt, L_lt2, L_eq, L_eq2, nI_leI, nI_ltI, nI_eq, nI_clamp, ix_nI, ix_lit, L_cl]; omega), ix_nI (by omega) (by omega), gd_true, nI_clamp (by omega), hW i (by omega), nI_1 i, ih (by omega) (by omega)]
    have e : kdC x (r + 1) i = if WCL.getD i 0 = x then i else kdC x r (i + 1) := rfl
    rw [e]
    by_cases h : WCL.getD i 0 = x
    · rw [if_pos (lgc.mpr h), if_pos h]
    · rw [if_neg (fun hx => h (lgc.mp hx)), if_neg h]
def bO (n : Nat) : Int32 := Int32.ofInt ((n : Int) - 128)
theorem sg_D : ∀ n : Fin 256, (match fSIGNS ((((bO n.1) &&& 255).toUInt32 % 65536).toInt32) with | some r => decide (r < 0) | none => false) = decide (sgB (bO n.1) = 3) ∧ (sgB (bO n.1) = 3 ∨ bO n.1 = nI (cK (sgB (bO n.1)))) := by decide +kernel
theorem bO_of {c : Int32} (h1 : -128 ≤ c) (h2 : c ≤ 127) : ∃ n : Fin 256, c = bO n.1 := by
  have a1 := Int32.le_iff_toInt_le.mp h1
  have a2 := Int32.le_iff_toInt_le.mp h2
  rw [show (-128 : Int32).toInt = -128 from by decide] at a1
  rw [show (127 : Int32).toInt = 127 from by decide] at a2
  refine ⟨⟨(c.toInt + 128).toNat, by omega⟩, ?_⟩
  unfold bO
  rw [show (((c.toInt + 128).toNat : Nat) : Int) - 128 = c.toInt by omega, Int32.ofInt_toInt]
theorem sg_c {c : Int32} (h1 : -128 ≤ c) (h2 : c ≤ 127) : ∃ r, fSIGNS (((c &&& 255).toUInt32 % 65536).toInt32) = some r ∧ (r < 0 ↔ sgB c = 3) ∧ (sgB c ≠ 3 → c = nI (cK (sgB c))) := by
  obtain ⟨n, rfl⟩ := bO_of h1 h2
  have := sg_D n
  refine ⟨_, rfl, ?_, fun h => this.2.resolve_left h⟩
  have h3 := this.1
  rw [show fSIGNS ((((bO n.1) &&& 255).toUInt32 % 65536).toInt32) = some _ from rfl] at h3
  exact decide_eq_decide.mp h3
