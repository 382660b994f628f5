theorem by_D : ∀ n : Fin 256, blB (bO n.1 &&& 255) = blB (bO n.1) ∧ leB (bO n.1 &&& 255) = leB (bO n.1) ∧ diB (bO n.1 &&& 255) = diB (bO n.1) ∧ sgB (bO n.1 &&& 255) = sgB (bO n.1) ∧ (leB (bO n.1) = false ∨ bO n.1 &&& 255 = bO n.1) ∧ (diB (bO n.1) = false ∨ bO n.1 &&& 255 = bO n.1) ∧ (leB (bO n.1) = false ∨ ¬ bO n.1 = 0) := by decide +kernel
theorem by_m {c : Int32} (h1 : -128 ≤ c) (h2 : c ≤ 127) : blB (c &&& 255) = blB c ∧ leB (c &&& 255) = leB c ∧ diB (c &&& 255) = diB c ∧ sgB (c &&& 255) = sgB c ∧ (leB c = true → c &&& 255 = c) ∧ (diB c = true → c &&& 255 = c) ∧ (leB c = true → ¬ c = 0) := by
  obtain ⟨n, rfl⟩ := bO_of h1 h2
  obtain ⟨a1, a2, a3, a4, a5, a6, a7⟩ := by_D n
  exact ⟨a1, a2, a3, a4, fun h => a5.resolve_left (by rw [h]; decide), fun h => a6.resolve_left (by rw [h]; decide), fun h => a7.resolve_left (by rw [h]; decide)⟩
def BYb (b : Nat → Int32) (T : Nat) : Prop := ∀ k, k < T → -128 ≤ b k ∧ b k ≤ 127
def TXm (b : Nat → Int32) (T : Nat) (ν : Mem) : Prop := ν.1 0 4 = nI T ∧ ∀ i, i < T → ν.1 2 i = b i
theorem byteAt_m {b : Nat → Int32} {T i : Nat} {ν : Mem} (hT : T ≤ 2000) (hX : TXm b T ν) (hi : i ≤ 4000) : fX12_byteAt (nI i) ν = some (if i < T then b i &&& 255 else 0) := by
  unfold fX12_byteAt
  rw [hX.1]
  by_cases h : i < T
  · rw [if_neg (by simp (disch := omega) only [L_add, L_add2, L_mul, L_mul2, L_sub, nI_add, pk_mul, pk_sub, L_le, L_le2, L_lt, L_lt2, L_eq, L_eq2, nI_leI, nI_ltI, nI_eq, nI_clamp, ix_nI, ix_lit, L_cl]; omega), if_pos h, ix_nI (by omega) (by omega), gd_true, nI_clamp (by omega), hX.2 i h]
  · rw [if_pos (by simp (disch := omega) only [L_add, L_add2, L_mul, L_mul2, L_sub, nI_add, pk_mul, pk_sub, L_le, L_le2, L_lt, L_lt2, L_eq, L_eq2, nI_leI, nI_ltI, nI_eq, nI_clamp, ix_nI, ix_lit, L_cl]; omega), if_neg h]
theorem isLetter_m (c : Int32) : fX12_isLetter c = some (if leB c then 1 else 0) := isLetter_c c
theorem isDigit_m (c : Int32) : fX12_isDigit c = some (if diB c then 1 else 0) := isDigit_c c
def AtM (ν : Mem) (n k i : Nat) (v : Int32) (x : Int64) : Prop := ν.1 3 n = nI k ∧ ν.1 4 n = nI i ∧ ν.1 5 n = v ∧ ν.2 6 n = x
def FTm (n : Nat) (ν ν' : Mem) : Prop := (∀ j, j ≠ 0 → j ≠ 3 → j ≠ 4 → j ≠ 5 → ν'.1 j = ν.1 j) ∧ (∀ k, k ≠ 10 → ν'.1 0 k = ν.1 0 k) ∧ (∀ k, k ≠ n → ν'.1 3 k = ν.1 3 k ∧ ν'.1 4 k = ν.1 4 k ∧ ν'.1 5 k = ν.1 5 k ∧ ν'.2 6 k = ν.2 6 k) ∧ ∀ j, j ≠ 6 → ν'.2 j = ν.2 j
theorem token_m {n k i : Nat} {v : Int32} {x : Int64} {ν : Mem} {α : Type} {F : Mem → Option α} {Q : α → Prop} (h10 : ν.1 0 10 = nI n) (hn : n ≤ 401) (hc : ∀ ν', ν'.1 0 10 = nI (n + 1) → AtM ν' n k i v x → FTm n ν ν' → Wo (F ν') Q) : Wo (b1 (fX12_token (nI k) (nI i) v x ν) F) Q := by
  unfold fX12_token
  rw [h10, ix_nI (by omega) (by omega), gd_true, nI_clamp (by omega), bd_eq, rd_Ii (by omega), h10, ix_nI (by omega) (by omega), gd_true, nI_clamp (by omega), bd_eq, rd_Ii (by omega), rd_Ii (by omega), h10, ix_nI (by omega) (by omega), gd_true, nI_clamp (by omega), bd_eq, rd_Ii (by omega), rd_Ii (by omega), rd_Ii (by omega), h10, ix_nI (by omega) (by omega), gd_true, nI_clamp (by omega), bd_eq, rd_L1, rd_Ii (by omega), rd_Ii (by omega), rd_Ii (by omega), h10, nI_1, bd_eq, b1_some]
  refine hc _ rd_Is ⟨?_, ?_, ?_, ?_⟩ ⟨fun j a b c d => ?_, fun k hk => ?_, fun k hk => ⟨?_, ?_, ?_, ?_⟩, fun j hj => ?_⟩
  · rw [rd_Ii (by omega), rd_L1, rd_Ii (by omega), rd_Ii (by omega), rd_Is]
  · rw [rd_Ii (by omega), rd_L1, rd_Ii (by omega), rd_Is]
  · rw [rd_Ii (by omega), rd_L1, rd_Is]
  · rw [rd_I2, rd_Ls]
  · rw [rd_Ii a, rd_L1, rd_Ii d, rd_Ii c, rd_Ii b]
  · rw [rd_Ik hk, rd_L1, rd_Ii (by omega), rd_Ii (by omega), rd_Ii (by omega)]
  · rw [rd_Ii (by omega), rd_L1, rd_Ii (by omega), rd_Ii (by omega), rd_Ik hk]
  · rw [rd_Ii (by omega), rd_L1, rd_Ii (by omega), rd_Ik hk, rd_Ii (by omega)]
  · rw [rd_Ii (by omega), rd_L1, rd_Ik hk, rd_Ii (by omega), rd_Ii (by omega)]
  · rw [rd_I2, rd_Lk hk]; rfl
  · rw [rd_I2, rd_Li hj]; rfl
theorem c85_s (K : Int32 → Int64 → Option Mem) (x : Int32) (ν : Mem) (n : Nat) (y : Int32) (z : Int64) : fX12_cutsUp_l85 K x ν (n + 1) y z = fX12_cutsUp_s85 (fX12_cutsUp_l85 K x ν n) K x y z ν := rfl
theorem c85_m {b : Nat → Int32} {T i n : Nat} {ν : Mem} {K : Int32 → Int64 → Option Mem} {Q : Mem → Prop} (hT : T ≤ 2000) (hB : BYb b T) (hX : TXm b T ν) (hn : i + n ≤ T) (hin : ∀ k, k < n → leB (b (i + k)) = true) (hout : i + n < T → leB (b (i + n)) = false) {r : Nat} : ∀ {c N : Nat} {z : Int64}, r + c = n → r < N → (∀ z', (n ≤ 8 → z' = nmF b r (i + c) z) → Wo (K (nI n) z') Q) → Wo (fX12_cutsUp_l85 K (nI i) ν N (nI c) z) Q := by
  induction r with
  | zero =>
    intro c N z hc hN hK
    obtain ⟨N, rfl⟩ : ∃ n', N = n' + 1 := ⟨N - 1, by omega⟩
    have hcn : c = n := by omega
    subst hcn
    rw [c85_s]
    unfold fX12_cutsUp_s85
    rw [show nI i + nI c = nI (i + c) by simp (disch := omega) only [L_add, L_add2, L_mul, L_mul2, L_sub, nI_add, pk_mul, pk_sub, L_le, L_le2, L_lt, L_lt2, L_eq, L_eq2, nI_leI, nI_ltI, nI_eq, nI_clamp, ix_nI, ix_lit, L_cl], byteAt_m hT hX (by omega), b1_some, isLetter_m, b1_some]
    have : leB (if i + c < T then b (i + c) &&& 255 else 0) = false := by
      by_cases h : i + c < T
      · rw [if_pos h, (by_m (hB _ h).1 (hB _ h).2).2.1]; exact hout h
      · rw [if_neg h]; decide
    rw [this, if_pos (by decide)]
    exact hK z (fun _ => rfl)
  | succ r ih =>
    intro c N z hc hN hK
    obtain ⟨N, rfl⟩ : ∃ n', N = n' + 1 := ⟨N - 1, by omega⟩
    rw [c85_s]
    unfold fX12_cutsUp_s85
    have h : i + c < T := by omega
    have hl := hin c (by omega)
    obtain ⟨y1, y2, y3, y4, y5, y6, y7⟩ := by_m (hB _ h).1 (hB _ h).2
    rw [show nI i + nI c = nI (i + c) by simp (disch := omega) only [L_add, L_add2, L_mul, L_mul2, L_sub, nI_add, pk_mul, pk_sub, L_le, L_le2, L_lt, L_lt2, L_eq, L_eq2, nI_leI, nI_ltI, nI_eq, nI_clamp, ix_nI, ix_lit, L_cl], byteAt_m hT hX (by omega), b1_some, if_pos h, y5 hl, isLetter_m, b1_some, hl, if_pos rfl, if_neg n10, b1_some]
    by_cases h8 : 8 ≤ c
    · rw [if_pos (by simp (disch := omega) only [L_add, L_add2, L_mul, L_mul2, L_sub, nI_add, pk_mul, pk_sub, L_le, L_le2, L_lt, L_lt2, L_eq, L_eq2, nI_leI, nI_ltI, nI_eq, nI_clamp, ix_nI, ix_lit, L_cl]; omega), nI_1]
      exact ih (by omega) (by omega) (fun z' _ => hK z' (fun hx => by omega))
    · rw [if_neg (by simp (disch := omega) only [L_add, L_add2, L_mul, L_mul2, L_sub, nI_add, pk_mul, pk_sub, L_le, L_le2, L_lt, L_lt2, L_eq, L_eq2, nI_leI, nI_ltI, nI_eq, nI_clamp, ix_nI, ix_lit, L_cl]; omega)]
      unfold fX12_appends
      rw [if_neg (y7 hl), b1_some, nI_1 c]
      refine ih (by omega) (by omega) (fun z' hz => hK z' (fun hx => ?_))
      rw [hz hx, Int64.mul_comm 27 z]
      rfl
theorem c208_s (K : Int32 → Int32 → Option Mem) (x : Int32) (ν : Mem) (n : Nat) (y z : Int32) : fX12_cutsUp_l208 K x ν (n + 1) y z = fX12_cutsUp_s208 (fX12_cutsUp_l208 K x ν n) K x y z ν := rfl
theorem dig_eq (z : Int64) (c : Int32) : 10 * z.toInt32 + c - 48 = (z * 10 + (c - 48).toInt64).toInt32 := by
  rw [Int64.toInt32_add, Int64.toInt32_mul, Int32.toInt32_toInt64, show (10 : Int64).toInt32 = 10 from rfl, Int32.mul_comm]
  rw [Int32.sub_eq_add_neg, Int32.sub_eq_add_neg, Int32.add_assoc]
theorem c208_m {b : Nat → Int32} {T i n : Nat} {ν : Mem} {K : Int32 → Int32 → Option Mem} {Q : Mem → Prop} (hT : T ≤ 2000) (hB : BYb b T) (hX : TXm b T ν) (hn : i + n ≤ T) (hin : ∀ k, k < n → diB (b (i + k)) = true) (hout : i + n < T → diB (b (i + n)) = false) {r : Nat} : ∀ {c N : Nat} {z : Int64}, r + c = n → r < N → (∀ z', (n ≤ 4 → z' = (nuF b r (i + c) z).toInt32) → Wo (K (nI n) z') Q) → Wo (fX12_cutsUp_l208 K (nI i) ν N (nI c) z.toInt32) Q := by
  induction r with
  | zero =>
    intro c N z hc hN hK
    obtain ⟨N, rfl⟩ : ∃ n', N = n' + 1 := ⟨N - 1, by omega⟩
    have hcn : c = n := by omega
    subst hcn
    rw [c208_s]
    unfold fX12_cutsUp_s208
    rw [show nI i + nI c = nI (i + c) by simp (disch := omega) only [L_add, L_add2, L_mul, L_mul2, L_sub, nI_add, pk_mul, pk_sub, L_le, L_le2, L_lt, L_lt2, L_eq, L_eq2, nI_leI, nI_ltI, nI_eq, nI_clamp, ix_nI, ix_lit, L_cl], byteAt_m hT hX (by omega), b1_some, isDigit_m, b1_some]
    have : diB (if i + c < T then b (i + c) &&& 255 else 0) = false := by
      by_cases h : i + c < T
      · rw [if_pos h, (by_m (hB _ h).1 (hB _ h).2).2.2.1]; exact hout h
      · rw [if_neg h]; decide
    rw [this, if_pos (by decide)]
    exact hK _ (fun _ => rfl)
  | succ r ih =>
    intro c N z hc hN hK
    obtain ⟨N, rfl⟩ : ∃ n', N = n' + 1 := ⟨N - 1, by omega⟩
    rw [c208_s]
    unfold fX12_cutsUp_s208
    have h : i + c < T := by omega
    have hl := hin c (by omega)
    obtain ⟨y1, y2, y3, y4, y5, y6, y7⟩ := by_m (hB _ h).1 (hB _ h).2
    rw [show nI i + nI c = nI (i + c) by simp (disch := omega) only [L_add, L_add2, L_mul, L_mul2, L_sub, nI_add, pk_mul, pk_sub, L_le, L_le2, L_lt, L_lt2, L_eq, L_eq2, nI_leI, nI_ltI, nI_eq, nI_clamp, ix_nI, ix_lit, L_cl], byteAt_m hT hX (by omega), b1_some, if_pos h, y6 hl, isDigit_m, b1_some, hl, if_pos rfl, if_neg n10, b1_some]
    by_cases h4 : 4 ≤ c
    · rw [if_pos (by simp (disch := omega) only [L_add, L_add2, L_mul, L_mul2, L_sub, nI_add, pk_mul, pk_sub, L_le, L_le2, L_lt, L_lt2, L_eq, L_eq2, nI_leI, nI_ltI, nI_eq, nI_clamp, ix_nI, ix_lit, L_cl]; omega), nI_1]
      exact ih (by omega) (by omega) (fun z' _ => hK z' (fun hx => by omega))
    · rw [if_neg (by simp (disch := omega) only [L_add, L_add2, L_mul, L_mul2, L_sub, nI_add, pk_mul, pk_sub, L_le, L_le2, L_lt, L_lt2, L_eq, L_eq2, nI_leI, nI_ltI, nI_eq, nI_clamp, ix_nI, ix_lit, L_cl]; omega), bd_eq, nI_1 c, dig_eq]
      refine ih (by omega) (by omega) (fun z' hz => hK z' (fun hx => ?_))
      rw [hz hx]
      rfl
theorem c146_s (K : Int32 → Option Mem) (x : Int64) (ν : Mem) (n : Nat) (y z : Int32) : fX12_cutsUp_l146 K x ν (n + 1) y z = fX12_cutsUp_s146 (fX12_cutsUp_l146 K x ν n) K x y z ν := rfl
theorem c146_m {x : Int64} {ν : Mem} {K : Int32 → Option Mem} (hW : ∀ i, i < 21 → ν.2 7 i = WKL.getD i 0) {r : Nat} : ∀ {i N a : Nat}, r + i = 21 → r < N → fX12_cutsUp_l146 K x ν N (nI a) (nI i) = K (nI (kdM x r i a)) := by
  induction r with
  | zero =>
    intro i N a hi hN
    obtain ⟨N, rfl⟩ : ∃ n', N = n' + 1 := ⟨N - 1, by omega⟩
    rw [c146_s]
    unfold fX12_cutsUp_s146
    rw [if_pos (by simp (disch := omega) only [L_add, L_add2, L_mul, L_mul2, L_sub, nI_add, pk_mul, pk_sub, L_le, L_le2, L_lt, L_lt2, L_eq, L_eq2, nI_leI, nI_ltI, nI_eq, nI_clamp, ix_nI, ix_lit, L_cl]; omega)]
    rfl
  | succ r ih =>
    intro i N a hi hN
    obtain ⟨N, rfl⟩ : ∃ n', N = n' + 1 := ⟨N - 1, by omega⟩
    rw [c146_s]
    unfold fX12_cutsUp_s146
    rw [if_neg (by simp (disch := omega) only [L_add, L_add2, L_mul, L_mul2, L_sub, nI_add, pk_mul, pk_sub, L_le, L_le2, L_lt, L_lt2, L_eq, L_eq2, nI_leI, nI_ltI, nI_eq, nI_clamp, ix_nI, ix_lit, L_cl]; omega), ix_nI (by omega) (by omega), gd_true, nI_clamp (by omega), hW i (by omega), nI_1 i, show (20 : Int32) + nI i = nI (20 + i) by simp (disch := omega) only [L_add, L_add2, L_mul, L_mul2, L_sub, nI_add, pk_mul, pk_sub, L_le, L_le2, L_lt, L_lt2, L_eq, L_eq2, nI_leI, nI_ltI, nI_eq, nI_clamp, ix_nI, ix_lit, L_cl], bd_eq, ih (by omega) (by omega), ih (by omega) (by omega)]
    have e : kdM x (r + 1) i a = if WKL.getD i 0 = x then kdM x r (i + 1) (20 + i) else kdM x r (i + 1) a := rfl
    rw [e]
    by_cases h : WKL.getD i 0 = x
    · rw [if_pos (lgc.mpr h), if_pos h]
    · rw [if_neg (fun hx => h (lgc.mp hx)), if_neg h]
theorem sign_m {i n : Nat} {c y : Int32} {ν : Mem} {F : Int32 → Mem → Option Mem} {Q : Mem → Prop} (h10 : ν.1 0 10 = nI n) (hn : n ≤ 401) (hc : ∀ ν', ν'.1 0 10 = nI (n + 1) → AtM ν' n (sgB c) i 0 0 → FTm n ν ν' → Wo (F 1 ν') Q) : Wo (b2 (fX12_sign (nI i) c y ν) F) Q := by
  have go : ∀ k, k = sgB c → Wo (b2 (fX12_sign_b95 (nI i) (nI k) ν) F) Q := by
    intro k hk
    subst hk
    unfold fX12_sign_b95
    rw [Wo_b2]
    refine token_m h10 hn (fun ν' a1 a2 a3 => ?_)
    rw [Wo_some]
    exact hc ν' a1 a2 a3
  unfold sgB at go
  unfold fX12_sign fX12_sign_b43 fX12_sign_b55 fX12_sign_b65 fX12_sign_b75 fX12_sign_b85
  by_cases e1 : c = 59
  · subst e1; exact go 4 rfl
  · by_cases e2 : c = 61
    · subst e2; exact go 5 rfl
    · by_cases e3 : c = 40
      · subst e3; exact go 6 rfl
      · by_cases e4 : c = 41
        · subst e4; exact go 7 rfl
        · rw [if_neg e1, if_neg e2, if_neg e3, if_neg e4] at go
          rw [if_neg e1, if_neg e2, if_neg e3, if_neg e4]
          by_cases e5 : c = 43
          · subst e5; exact go 8 rfl
          · by_cases e6 : c = 45
            · subst e6; exact go 9 rfl
            · by_cases e7 : c = 42
              · subst e7; exact go 10 rfl
              · by_cases e8 : c = 47
                · subst e8; exact go 15 rfl
                · by_cases e9 : c = 60
                  · subst e9; exact go 13 rfl
                  · rw [if_neg e5, if_neg e6, if_neg e7, if_neg e8, if_neg e9] at go
                    rw [if_neg e5, if_neg e6, if_neg e7, if_neg e8, if_neg e9]
                    exact go 3 rfl
