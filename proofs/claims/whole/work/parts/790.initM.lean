def zF (a : Nat) : Nat → Mem → Mem
  | 0, ν => ν
  | n + 1, ν => zr (zF a n ν) (a + n)
theorem zF_out {a n j : Nat} {ν : Mem} (h : j < a ∨ a + n ≤ j) : (zF a n ν).1 j = ν.1 j := by
  induction n with
  | zero => rfl
  | succ n ih =>
    show (zr (zF a n ν) (a + n)).1 j = _
    rw [(zr_ne (by omega)).1]; exact ih (by omega)
theorem zF_in {a n j : Nat} {ν : Mem} (h1 : a ≤ j) (h2 : j < a + n) : (zF a n ν).1 j = fun _ => 0 := by
  induction n with
  | zero => omega
  | succ n ih =>
    show (zr (zF a n ν) (a + n)).1 j = _
    by_cases e : j = a + n
    · rw [e]; exact zr_eq.1
    · rw [(zr_ne e).1]; exact ih (by omega)
def wdF (ν : Mem) : Mem := (upL (upL (upL (upL (upL (upL (upL (upL (upL (upL (upL (upL (upL (upL (upL (upL (upL (upL (upL (upL (upL ν 7 0 4562600) 7 1 1900846) 7 2 12256318) 7 3 3211399) 7 4 7017481) 7 5 1890640) 7 6 365640) 7 7 158448) 7 8 377761) 7 9 249) 7 10 399641) 7 11 107681) 7 12 8533099) 7 13 38567165) 7 14 161156) 7 15 220610) 7 16 307058) 7 17 2968) 7 18 12387257) 7 19 174879964) 7 20 1489745)
theorem wdF_1 {ν : Mem} : (wdF ν).1 = ν.1 := by unfold wdF; simp only [rd_L1]
theorem wdF_7 {ν : Mem} : ∀ i, i < 21 → (wdF ν).2 7 i = WKL.getD i 0 := by
  intro i hi
  unfold wdF
  rcases (show i = 0 ∨ i = 1 ∨ i = 2 ∨ i = 3 ∨ i = 4 ∨ i = 5 ∨ i = 6 ∨ i = 7 ∨ i = 8 ∨ i = 9 ∨ i = 10 ∨ i = 11 ∨ i = 12 ∨ i = 13 ∨ i = 14 ∨ i = 15 ∨ i = 16 ∨ i = 17 ∨ i = 18 ∨ i = 19 ∨ i = 20 by omega) with rfl | rfl | rfl | rfl | rfl | rfl | rfl | rfl | rfl | rfl | rfl | rfl | rfl | rfl | rfl | rfl | rfl | rfl | rfl | rfl | rfl
  all_goals simp (disch := omega) only [rd_Lk, rd_Ls]
  all_goals rfl
theorem wdK_0 : fX12_word 104 111 117 115 101 0 0 = some 4562600 := by decide
theorem wdK_1 : fX12_word 99 111 111 108 115 0 0 = some 1900846 := by decide
theorem wdK_2 : fX12_word 119 97 114 109 115 0 0 = some 12256318 := by decide
theorem wdK_3 : fX12_word 102 97 100 101 115 0 0 = some 3211399 := by decide
theorem wdK_4 : fX12_word 109 101 110 100 115 0 0 = some 7017481 := by decide
theorem wdK_5 : fX12_word 99 111 97 108 115 0 0 = some 1890640 := by decide
theorem wdK_6 : fX12_word 114 111 111 102 0 0 0 = some 365640 := by decide
theorem wdK_7 : fX12_word 104 97 105 108 0 0 0 = some 158448 := by decide
theorem wdK_8 : fX12_word 115 101 101 100 0 0 0 = some 377761 := by decide
theorem wdK_9 : fX12_word 105 102 0 0 0 0 0 = some 249 := by decide
theorem wdK_10 : fX12_word 116 104 101 110 0 0 0 = some 399641 := by decide
theorem wdK_11 : fX12_word 101 108 115 101 0 0 0 = some 107681 := by decide
theorem wdK_12 : fX12_word 112 97 110 101 115 0 0 = some 8533099 := by decide
theorem wdK_13 : fX12_word 98 114 111 107 101 110 0 = some 38567165 := by decide
theorem wdK_14 : fX12_word 104 101 97 116 0 0 0 = some 161156 := by decide
theorem wdK_15 : fX12_word 107 101 112 116 0 0 0 = some 220610 := by decide
theorem wdK_16 : fX12_word 111 112 101 110 0 0 0 = some 307058 := by decide
theorem wdK_17 : fX12_word 100 97 121 0 0 0 0 = some 2968 := by decide
theorem wdK_18 : fX12_word 119 104 105 99 104 0 0 = some 12387257 := by decide
theorem wdK_19 : fX12_word 108 101 97 118 101 115 0 = some 174879964 := by decide
theorem wdK_20 : fX12_word 98 117 114 110 116 0 0 = some 1489745 := by decide
