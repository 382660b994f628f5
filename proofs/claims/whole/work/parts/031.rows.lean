def Is (ω : WW) (j t n : Nat) : Prop := wV ω j ∧ (wDS ω)[j]? = some (t, n) ∧ ∀ k, wN ω j k = false
def xMARK (j : Nat) : Int32 := ([0, 2, 3, 1] : List Int32).getD j 0
def xLEAST (j : Nat) : Int32 := ([1, 0, 0, 0, 0, 0, 1, 0, 0] : List Int32).getD j 0
def xMOST (j : Nat) : Int32 := ([20, 99, 999, 99, 99, 999, 99, 100, 9999] : List Int32).getD j 0
def xWORDS : List Int32 := [104, 111, 117, 115, 101, 32, 99, 111, 111, 108, 115, 32, 119, 97, 114, 109, 115, 32, 102, 97, 100, 101, 115, 32, 109, 101, 110, 100, 115, 32, 99, 111, 97, 108, 115, 32, 114, 111, 111, 102, 32, 104, 97, 105, 108, 32, 115, 101, 101, 100, 32, 105, 102, 32, 116, 104, 101, 110, 32, 101, 108, 115, 101, 32, 112, 97, 110, 101, 115, 32, 98, 114, 111, 107, 101, 110, 32, 104, 101, 97, 116, 32, 107, 101, 112, 116, 32, 111, 112, 101, 110, 32, 108, 101, 97, 118, 101, 115, 32, 98, 117, 114, 110, 116, 32, 100, 97, 121, 32, 119, 104, 105, 99, 104, 32]
def xSIGNS : List Int32 := [59, 61, 43, 45, 42, 47, 60, 40, 41]
/-- what the start gives of the static rows and of the texts -/
def EF (X : Nat → Nat) (A : Nat → Prop) (U : State) : Prop :=
  (va_Z "SummerHouses$Told" "CELL_OF_MARK" "[I" (.ref (X 0)) A U U.heap ∧ va_T .int (X 0) 4 (fun j => .int (xMARK j)) A U U.heap) ∧
  (va_Z "SummerHouses$Reader" "LEAST" "[I" (.ref (X 1)) A U U.heap ∧ va_T .int (X 1) 9 (fun j => .int (xLEAST j)) A U U.heap) ∧
  (va_Z "SummerHouses$Reader" "MOST" "[I" (.ref (X 2)) A U U.heap ∧ va_T .int (X 2) 9 (fun j => .int (xMOST j)) A U U.heap) ∧
  (vk_R "SummerHouses$Tokens" 15 "house cools warms fades mends coals roof hail seed if then else panes broken heat kept open leaves burnt day which " (X 3) U ∧ vk_R "SummerHouses$Tokens" 75 ";=+-*/<()" (X 4) U) ∧
  vk_S 2 [115, 9] [xWORDS, xSIGNS] (fun i => X (3 + i)) (fun i => X (5 + i)) A U U.heap ∧
  va_Z "java/lang/String" "COMPACT_STRINGS" "Z" (.int 1) A U U.heap ∧ va_Zq "jdk/internal/util/Preconditions" "SIOOBE_FORMATTER" "Ljava/util/function/BiFunction;" A U U.heap
def FWC (ω : WW) : Prop := wDS ω = DSC ∧ ((∀ j t n, 1 ≤ j → DSC[j]? = some (t, n) → wV ω j) ∧ ∀ j k, wN ω j k = false) ∧ ∃ X : Nat → Nat, ∀ U : State, wE ω U → EF X (wA ω) U
def FWM (ω : WW) : Prop := wDS ω = DSM ∧ (∀ j t n, DSM[j]? = some (t, n) → wV ω j) ∧ ∀ j k, wN ω j k = false
theorem lit_C {ω : WW} (hW : FWC ω) {j t n : Nat} (h1 : 1 ≤ j) (h : DSC[j]? = some (t, n)) : Is ω j t n := ⟨hW.2.1.1 j t n h1 h, by rw [hW.1]; exact h, hW.2.1.2 j⟩
theorem lit_M {ω : WW} (hW : FWM ω) {j t n : Nat} (h : DSM[j]? = some (t, n)) : Is ω j t n := ⟨hW.2.1 j t n h, by rw [hW.1]; exact h, hW.2.2 j⟩
theorem ix_lt {i : Int32} {n : Nat} (h : ix i n = true) : i.toNatClampNeg < n := Nat.not_le.mp fun q => ix_in h (Or.inr q)
def IsS (ω : WW) (q : Nat) : Prop := Is ω q 7 5 ∧ Is ω (q + 1) 100 42
def IsL (ω : WW) (q : Nat) : Prop := Is ω q 1 5 ∧ Is ω (q + 1) 100 416 ∧ Is ω (q + 2) 100 416 ∧ Is ω (q + 3) 100 4 ∧ Is ω (q + 4) 100 32
def IsQ (ω : WW) (q : Nat) : Prop := Is ω q 3 7 ∧ Is ω (q + 1) 100 30 ∧ IsL ω (q + 2)
def IsH (ω : WW) (q n : Nat) : Prop := Is ω q 6 6 ∧ IsS ω (q + 1) ∧ Is ω (q + 3) 105 6 ∧ (∀ i, i < 6 → Is ω (q + 3 + 1 + i) 100 n) ∧ Is ω (q + 10) 105 7 ∧ (∀ i, i < 7 → Is ω (q + 10 + 1 + i) 100 n) ∧ Is ω (q + 18) 100 6
theorem jC_1 {ω : WW} (hW : FWC ω) : Is ω 1 11 17 := lit_C hW (by decide) rfl
theorem jC_2 {ω : WW} (hW : FWC ω) : Is ω 2 102 2000 := lit_C hW (by decide) rfl
theorem jC_3 {ω : WW} (hW : FWC ω) : Is ω 3 4 6 := lit_C hW (by decide) rfl
theorem jC_4 {ω : WW} (hW : FWC ω) : Is ω 4 8 5 := lit_C hW (by decide) rfl
theorem jC_5 {ω : WW} (hW : FWC ω) : Is ω 5 103 21 := lit_C hW (by decide) rfl
theorem jC_6 {ω : WW} (hW : FWC ω) : Is ω 6 100 401 := lit_C hW (by decide) rfl
theorem jC_7 {ω : WW} (hW : FWC ω) : Is ω 7 103 401 := lit_C hW (by decide) rfl
theorem jC_8 {ω : WW} (hW : FWC ω) : Is ω 8 100 401 := lit_C hW (by decide) rfl
theorem jC_9 {ω : WW} (hW : FWC ω) : Is ω 9 3 7 := lit_C hW (by decide) rfl
theorem jC_10 {ω : WW} (hW : FWC ω) : Is ω 10 100 30 := lit_C hW (by decide) rfl
theorem jC_11 {ω : WW} (hW : FWC ω) : Is ω 11 1 5 := lit_C hW (by decide) rfl
theorem jC_12 {ω : WW} (hW : FWC ω) : Is ω 12 100 416 := lit_C hW (by decide) rfl
theorem jC_13 {ω : WW} (hW : FWC ω) : Is ω 13 100 416 := lit_C hW (by decide) rfl
theorem jC_14 {ω : WW} (hW : FWC ω) : Is ω 14 100 4 := lit_C hW (by decide) rfl
theorem jC_15 {ω : WW} (hW : FWC ω) : Is ω 15 100 32 := lit_C hW (by decide) rfl
theorem jC_16 {ω : WW} (hW : FWC ω) : Is ω 16 103 6 := lit_C hW (by decide) rfl
theorem jC_17 {ω : WW} (hW : FWC ω) : Is ω 17 3 7 := lit_C hW (by decide) rfl
theorem jC_18 {ω : WW} (hW : FWC ω) : Is ω 18 100 30 := lit_C hW (by decide) rfl
theorem jC_19 {ω : WW} (hW : FWC ω) : Is ω 19 1 5 := lit_C hW (by decide) rfl
theorem jC_20 {ω : WW} (hW : FWC ω) : Is ω 20 100 416 := lit_C hW (by decide) rfl
theorem jC_21 {ω : WW} (hW : FWC ω) : Is ω 21 100 416 := lit_C hW (by decide) rfl
theorem jC_22 {ω : WW} (hW : FWC ω) : Is ω 22 100 4 := lit_C hW (by decide) rfl
theorem jC_23 {ω : WW} (hW : FWC ω) : Is ω 23 100 32 := lit_C hW (by decide) rfl
theorem jC_24 {ω : WW} (hW : FWC ω) : Is ω 24 7 5 := lit_C hW (by decide) rfl
theorem jC_25 {ω : WW} (hW : FWC ω) : Is ω 25 100 42 := lit_C hW (by decide) rfl
theorem jC_26 {ω : WW} (hW : FWC ω) : Is ω 26 7 5 := lit_C hW (by decide) rfl
theorem jC_27 {ω : WW} (hW : FWC ω) : Is ω 27 100 42 := lit_C hW (by decide) rfl
theorem jC_28 {ω : WW} (hW : FWC ω) : Is ω 28 7 5 := lit_C hW (by decide) rfl
theorem jC_29 {ω : WW} (hW : FWC ω) : Is ω 29 100 42 := lit_C hW (by decide) rfl
theorem jC_30 {ω : WW} (hW : FWC ω) : Is ω 30 0 5 := lit_C hW (by decide) rfl
theorem jC_31 {ω : WW} (hW : FWC ω) : Is ω 31 104 40 := lit_C hW (by decide) rfl
theorem jC_32 {ω : WW} (hW : FWC ω) : Is ω 32 7 5 := lit_C hW (by decide) rfl
theorem jC_33 {ω : WW} (hW : FWC ω) : Is ω 33 100 42 := lit_C hW (by decide) rfl
theorem jC_34 {ω : WW} (hW : FWC ω) : Is ω 34 7 5 := lit_C hW (by decide) rfl
theorem jC_35 {ω : WW} (hW : FWC ω) : Is ω 35 100 42 := lit_C hW (by decide) rfl
theorem jC_36 {ω : WW} (hW : FWC ω) : Is ω 36 7 5 := lit_C hW (by decide) rfl
theorem jC_37 {ω : WW} (hW : FWC ω) : Is ω 37 100 42 := lit_C hW (by decide) rfl
theorem jC_38 {ω : WW} (hW : FWC ω) : Is ω 38 7 5 := lit_C hW (by decide) rfl
theorem jC_39 {ω : WW} (hW : FWC ω) : Is ω 39 100 42 := lit_C hW (by decide) rfl
theorem jC_40 {ω : WW} (hW : FWC ω) : Is ω 40 7 5 := lit_C hW (by decide) rfl
theorem jC_41 {ω : WW} (hW : FWC ω) : Is ω 41 100 42 := lit_C hW (by decide) rfl
theorem jC_42 {ω : WW} (hW : FWC ω) : Is ω 42 7 5 := lit_C hW (by decide) rfl
theorem jC_43 {ω : WW} (hW : FWC ω) : Is ω 43 100 42 := lit_C hW (by decide) rfl
theorem jC_44 {ω : WW} (hW : FWC ω) : Is ω 44 7 5 := lit_C hW (by decide) rfl
theorem jC_45 {ω : WW} (hW : FWC ω) : Is ω 45 100 42 := lit_C hW (by decide) rfl
theorem jC_46 {ω : WW} (hW : FWC ω) : Is ω 46 7 5 := lit_C hW (by decide) rfl
theorem jC_47 {ω : WW} (hW : FWC ω) : Is ω 47 100 42 := lit_C hW (by decide) rfl
theorem jC_48 {ω : WW} (hW : FWC ω) : Is ω 48 7 5 := lit_C hW (by decide) rfl
theorem jC_49 {ω : WW} (hW : FWC ω) : Is ω 49 100 42 := lit_C hW (by decide) rfl
theorem jC_50 {ω : WW} (hW : FWC ω) : Is ω 50 7 5 := lit_C hW (by decide) rfl
theorem jC_51 {ω : WW} (hW : FWC ω) : Is ω 51 100 42 := lit_C hW (by decide) rfl
theorem jC_52 {ω : WW} (hW : FWC ω) : Is ω 52 7 5 := lit_C hW (by decide) rfl
theorem jC_53 {ω : WW} (hW : FWC ω) : Is ω 53 100 42 := lit_C hW (by decide) rfl
theorem jC_54 {ω : WW} (hW : FWC ω) : Is ω 54 7 5 := lit_C hW (by decide) rfl
theorem jC_55 {ω : WW} (hW : FWC ω) : Is ω 55 100 42 := lit_C hW (by decide) rfl
theorem jC_56 {ω : WW} (hW : FWC ω) : Is ω 56 7 5 := lit_C hW (by decide) rfl
theorem jC_57 {ω : WW} (hW : FWC ω) : Is ω 57 100 42 := lit_C hW (by decide) rfl
theorem jC_58 {ω : WW} (hW : FWC ω) : Is ω 58 7 5 := lit_C hW (by decide) rfl
theorem jC_59 {ω : WW} (hW : FWC ω) : Is ω 59 100 42 := lit_C hW (by decide) rfl
theorem jC_60 {ω : WW} (hW : FWC ω) : Is ω 60 7 5 := lit_C hW (by decide) rfl
theorem jC_61 {ω : WW} (hW : FWC ω) : Is ω 61 100 42 := lit_C hW (by decide) rfl
theorem jC_62 {ω : WW} (hW : FWC ω) : Is ω 62 7 5 := lit_C hW (by decide) rfl
theorem jC_63 {ω : WW} (hW : FWC ω) : Is ω 63 100 42 := lit_C hW (by decide) rfl
theorem jC_64 {ω : WW} (hW : FWC ω) : Is ω 64 7 5 := lit_C hW (by decide) rfl
theorem jC_65 {ω : WW} (hW : FWC ω) : Is ω 65 100 42 := lit_C hW (by decide) rfl
theorem jC_66 {ω : WW} (hW : FWC ω) : Is ω 66 7 5 := lit_C hW (by decide) rfl
theorem jC_67 {ω : WW} (hW : FWC ω) : Is ω 67 100 42 := lit_C hW (by decide) rfl
theorem jC_68 {ω : WW} (hW : FWC ω) : Is ω 68 7 5 := lit_C hW (by decide) rfl
theorem jC_69 {ω : WW} (hW : FWC ω) : Is ω 69 100 42 := lit_C hW (by decide) rfl
theorem jC_70 {ω : WW} (hW : FWC ω) : Is ω 70 7 5 := lit_C hW (by decide) rfl
theorem jC_71 {ω : WW} (hW : FWC ω) : Is ω 71 100 42 := lit_C hW (by decide) rfl
theorem jC_72 {ω : WW} (hW : FWC ω) : Is ω 72 7 5 := lit_C hW (by decide) rfl
theorem jC_73 {ω : WW} (hW : FWC ω) : Is ω 73 100 42 := lit_C hW (by decide) rfl
theorem jC_74 {ω : WW} (hW : FWC ω) : Is ω 74 7 5 := lit_C hW (by decide) rfl
theorem jC_75 {ω : WW} (hW : FWC ω) : Is ω 75 100 42 := lit_C hW (by decide) rfl
theorem jC_76 {ω : WW} (hW : FWC ω) : Is ω 76 7 5 := lit_C hW (by decide) rfl
theorem jC_77 {ω : WW} (hW : FWC ω) : Is ω 77 100 42 := lit_C hW (by decide) rfl
theorem jC_78 {ω : WW} (hW : FWC ω) : Is ω 78 7 5 := lit_C hW (by decide) rfl
theorem jC_79 {ω : WW} (hW : FWC ω) : Is ω 79 100 42 := lit_C hW (by decide) rfl
theorem jC_80 {ω : WW} (hW : FWC ω) : Is ω 80 7 5 := lit_C hW (by decide) rfl
theorem jC_81 {ω : WW} (hW : FWC ω) : Is ω 81 100 42 := lit_C hW (by decide) rfl
theorem jC_82 {ω : WW} (hW : FWC ω) : Is ω 82 7 5 := lit_C hW (by decide) rfl
theorem jC_83 {ω : WW} (hW : FWC ω) : Is ω 83 100 42 := lit_C hW (by decide) rfl
theorem jC_84 {ω : WW} (hW : FWC ω) : Is ω 84 7 5 := lit_C hW (by decide) rfl
theorem jC_85 {ω : WW} (hW : FWC ω) : Is ω 85 100 42 := lit_C hW (by decide) rfl
theorem jC_86 {ω : WW} (hW : FWC ω) : Is ω 86 7 5 := lit_C hW (by decide) rfl
theorem jC_87 {ω : WW} (hW : FWC ω) : Is ω 87 100 42 := lit_C hW (by decide) rfl
theorem jC_88 {ω : WW} (hW : FWC ω) : Is ω 88 7 5 := lit_C hW (by decide) rfl
theorem jC_89 {ω : WW} (hW : FWC ω) : Is ω 89 100 42 := lit_C hW (by decide) rfl
theorem jC_90 {ω : WW} (hW : FWC ω) : Is ω 90 7 5 := lit_C hW (by decide) rfl
theorem jC_91 {ω : WW} (hW : FWC ω) : Is ω 91 100 42 := lit_C hW (by decide) rfl
theorem jC_92 {ω : WW} (hW : FWC ω) : Is ω 92 7 5 := lit_C hW (by decide) rfl
theorem jC_93 {ω : WW} (hW : FWC ω) : Is ω 93 100 42 := lit_C hW (by decide) rfl
theorem jC_94 {ω : WW} (hW : FWC ω) : Is ω 94 7 5 := lit_C hW (by decide) rfl
theorem jC_95 {ω : WW} (hW : FWC ω) : Is ω 95 100 42 := lit_C hW (by decide) rfl
theorem jC_96 {ω : WW} (hW : FWC ω) : Is ω 96 7 5 := lit_C hW (by decide) rfl
theorem jC_97 {ω : WW} (hW : FWC ω) : Is ω 97 100 42 := lit_C hW (by decide) rfl
theorem jC_98 {ω : WW} (hW : FWC ω) : Is ω 98 7 5 := lit_C hW (by decide) rfl
theorem jC_99 {ω : WW} (hW : FWC ω) : Is ω 99 100 42 := lit_C hW (by decide) rfl
theorem jC_100 {ω : WW} (hW : FWC ω) : Is ω 100 7 5 := lit_C hW (by decide) rfl
theorem jC_101 {ω : WW} (hW : FWC ω) : Is ω 101 100 42 := lit_C hW (by decide) rfl
theorem jC_102 {ω : WW} (hW : FWC ω) : Is ω 102 7 5 := lit_C hW (by decide) rfl
theorem jC_103 {ω : WW} (hW : FWC ω) : Is ω 103 100 42 := lit_C hW (by decide) rfl
theorem jC_104 {ω : WW} (hW : FWC ω) : Is ω 104 7 5 := lit_C hW (by decide) rfl
theorem jC_105 {ω : WW} (hW : FWC ω) : Is ω 105 100 42 := lit_C hW (by decide) rfl
theorem jC_106 {ω : WW} (hW : FWC ω) : Is ω 106 7 5 := lit_C hW (by decide) rfl
theorem jC_107 {ω : WW} (hW : FWC ω) : Is ω 107 100 42 := lit_C hW (by decide) rfl
theorem jC_108 {ω : WW} (hW : FWC ω) : Is ω 108 7 5 := lit_C hW (by decide) rfl
theorem jC_109 {ω : WW} (hW : FWC ω) : Is ω 109 100 42 := lit_C hW (by decide) rfl
theorem jC_110 {ω : WW} (hW : FWC ω) : Is ω 110 7 5 := lit_C hW (by decide) rfl
theorem jC_111 {ω : WW} (hW : FWC ω) : Is ω 111 100 42 := lit_C hW (by decide) rfl
theorem jC_112 {ω : WW} (hW : FWC ω) : Is ω 112 104 3 := lit_C hW (by decide) rfl
theorem jC_113 {ω : WW} (hW : FWC ω) : Is ω 113 7 5 := lit_C hW (by decide) rfl
theorem jC_114 {ω : WW} (hW : FWC ω) : Is ω 114 100 42 := lit_C hW (by decide) rfl
theorem jC_115 {ω : WW} (hW : FWC ω) : Is ω 115 7 5 := lit_C hW (by decide) rfl
theorem jC_116 {ω : WW} (hW : FWC ω) : Is ω 116 100 42 := lit_C hW (by decide) rfl
theorem jC_117 {ω : WW} (hW : FWC ω) : Is ω 117 7 5 := lit_C hW (by decide) rfl
theorem jC_118 {ω : WW} (hW : FWC ω) : Is ω 118 100 42 := lit_C hW (by decide) rfl
theorem jC_119 {ω : WW} (hW : FWC ω) : Is ω 119 101 3 := lit_C hW (by decide) rfl
theorem jC_120 {ω : WW} (hW : FWC ω) : Is ω 120 6 6 := lit_C hW (by decide) rfl
theorem jC_121 {ω : WW} (hW : FWC ω) : Is ω 121 7 5 := lit_C hW (by decide) rfl
theorem jC_122 {ω : WW} (hW : FWC ω) : Is ω 122 100 42 := lit_C hW (by decide) rfl
theorem jC_123 {ω : WW} (hW : FWC ω) : Is ω 123 105 6 := lit_C hW (by decide) rfl
theorem jC_124 {ω : WW} (hW : FWC ω) : Is ω 124 100 31 := lit_C hW (by decide) rfl
theorem jC_125 {ω : WW} (hW : FWC ω) : Is ω 125 100 31 := lit_C hW (by decide) rfl
theorem jC_126 {ω : WW} (hW : FWC ω) : Is ω 126 100 31 := lit_C hW (by decide) rfl
theorem jC_127 {ω : WW} (hW : FWC ω) : Is ω 127 100 31 := lit_C hW (by decide) rfl
theorem jC_128 {ω : WW} (hW : FWC ω) : Is ω 128 100 31 := lit_C hW (by decide) rfl
theorem jC_129 {ω : WW} (hW : FWC ω) : Is ω 129 100 31 := lit_C hW (by decide) rfl
theorem jC_130 {ω : WW} (hW : FWC ω) : Is ω 130 105 7 := lit_C hW (by decide) rfl
theorem jC_131 {ω : WW} (hW : FWC ω) : Is ω 131 100 31 := lit_C hW (by decide) rfl
theorem jC_132 {ω : WW} (hW : FWC ω) : Is ω 132 100 31 := lit_C hW (by decide) rfl
theorem jC_133 {ω : WW} (hW : FWC ω) : Is ω 133 100 31 := lit_C hW (by decide) rfl
theorem jC_134 {ω : WW} (hW : FWC ω) : Is ω 134 100 31 := lit_C hW (by decide) rfl
theorem jC_135 {ω : WW} (hW : FWC ω) : Is ω 135 100 31 := lit_C hW (by decide) rfl
theorem jC_136 {ω : WW} (hW : FWC ω) : Is ω 136 100 31 := lit_C hW (by decide) rfl
theorem jC_137 {ω : WW} (hW : FWC ω) : Is ω 137 100 31 := lit_C hW (by decide) rfl
theorem jC_138 {ω : WW} (hW : FWC ω) : Is ω 138 100 6 := lit_C hW (by decide) rfl
theorem jC_139 {ω : WW} (hW : FWC ω) : Is ω 139 6 6 := lit_C hW (by decide) rfl
theorem jC_140 {ω : WW} (hW : FWC ω) : Is ω 140 7 5 := lit_C hW (by decide) rfl
theorem jC_141 {ω : WW} (hW : FWC ω) : Is ω 141 100 42 := lit_C hW (by decide) rfl
theorem jC_142 {ω : WW} (hW : FWC ω) : Is ω 142 105 6 := lit_C hW (by decide) rfl
theorem jC_143 {ω : WW} (hW : FWC ω) : Is ω 143 100 11 := lit_C hW (by decide) rfl
theorem jC_144 {ω : WW} (hW : FWC ω) : Is ω 144 100 11 := lit_C hW (by decide) rfl
theorem jC_145 {ω : WW} (hW : FWC ω) : Is ω 145 100 11 := lit_C hW (by decide) rfl
theorem jC_146 {ω : WW} (hW : FWC ω) : Is ω 146 100 11 := lit_C hW (by decide) rfl
theorem jC_147 {ω : WW} (hW : FWC ω) : Is ω 147 100 11 := lit_C hW (by decide) rfl
theorem jC_148 {ω : WW} (hW : FWC ω) : Is ω 148 100 11 := lit_C hW (by decide) rfl
theorem jC_149 {ω : WW} (hW : FWC ω) : Is ω 149 105 7 := lit_C hW (by decide) rfl
theorem jC_150 {ω : WW} (hW : FWC ω) : Is ω 150 100 11 := lit_C hW (by decide) rfl
theorem jC_151 {ω : WW} (hW : FWC ω) : Is ω 151 100 11 := lit_C hW (by decide) rfl
theorem jC_152 {ω : WW} (hW : FWC ω) : Is ω 152 100 11 := lit_C hW (by decide) rfl
theorem jC_153 {ω : WW} (hW : FWC ω) : Is ω 153 100 11 := lit_C hW (by decide) rfl
theorem jC_154 {ω : WW} (hW : FWC ω) : Is ω 154 100 11 := lit_C hW (by decide) rfl
theorem jC_155 {ω : WW} (hW : FWC ω) : Is ω 155 100 11 := lit_C hW (by decide) rfl
theorem jC_156 {ω : WW} (hW : FWC ω) : Is ω 156 100 11 := lit_C hW (by decide) rfl
theorem jC_157 {ω : WW} (hW : FWC ω) : Is ω 157 100 6 := lit_C hW (by decide) rfl
theorem jC_158 {ω : WW} (hW : FWC ω) : Is ω 158 6 6 := lit_C hW (by decide) rfl
theorem jC_159 {ω : WW} (hW : FWC ω) : Is ω 159 7 5 := lit_C hW (by decide) rfl
theorem jC_160 {ω : WW} (hW : FWC ω) : Is ω 160 100 42 := lit_C hW (by decide) rfl
theorem jC_161 {ω : WW} (hW : FWC ω) : Is ω 161 105 6 := lit_C hW (by decide) rfl
theorem jC_162 {ω : WW} (hW : FWC ω) : Is ω 162 100 11 := lit_C hW (by decide) rfl
theorem jC_163 {ω : WW} (hW : FWC ω) : Is ω 163 100 11 := lit_C hW (by decide) rfl
theorem jC_164 {ω : WW} (hW : FWC ω) : Is ω 164 100 11 := lit_C hW (by decide) rfl
theorem jC_165 {ω : WW} (hW : FWC ω) : Is ω 165 100 11 := lit_C hW (by decide) rfl
theorem jC_166 {ω : WW} (hW : FWC ω) : Is ω 166 100 11 := lit_C hW (by decide) rfl
theorem jC_167 {ω : WW} (hW : FWC ω) : Is ω 167 100 11 := lit_C hW (by decide) rfl
theorem jC_168 {ω : WW} (hW : FWC ω) : Is ω 168 105 7 := lit_C hW (by decide) rfl
theorem jC_169 {ω : WW} (hW : FWC ω) : Is ω 169 100 11 := lit_C hW (by decide) rfl
theorem jC_170 {ω : WW} (hW : FWC ω) : Is ω 170 100 11 := lit_C hW (by decide) rfl
theorem jC_171 {ω : WW} (hW : FWC ω) : Is ω 171 100 11 := lit_C hW (by decide) rfl
theorem jC_172 {ω : WW} (hW : FWC ω) : Is ω 172 100 11 := lit_C hW (by decide) rfl
theorem jC_173 {ω : WW} (hW : FWC ω) : Is ω 173 100 11 := lit_C hW (by decide) rfl
theorem jC_174 {ω : WW} (hW : FWC ω) : Is ω 174 100 11 := lit_C hW (by decide) rfl
theorem jC_175 {ω : WW} (hW : FWC ω) : Is ω 175 100 11 := lit_C hW (by decide) rfl
theorem jC_176 {ω : WW} (hW : FWC ω) : Is ω 176 100 6 := lit_C hW (by decide) rfl
theorem jC_177 {ω : WW} (hW : FWC ω) : Is ω 177 10 3 := lit_C hW (by decide) rfl
theorem jC_178 {ω : WW} (hW : FWC ω) : Is ω 178 100 6 := lit_C hW (by decide) rfl
theorem jC_179 {ω : WW} (hW : FWC ω) : Is ω 179 100 6 := lit_C hW (by decide) rfl
theorem jC_180 {ω : WW} (hW : FWC ω) : Is ω 180 5 2 := lit_C hW (by decide) rfl
theorem jC_181 {ω : WW} (hW : FWC ω) : Is ω 181 100 6 := lit_C hW (by decide) rfl
theorem jC_182 {ω : WW} (hW : FWC ω) : Is ω 182 100 6 := lit_C hW (by decide) rfl
theorem jC_183 {ω : WW} (hW : FWC ω) : Is ω 183 2 3 := lit_C hW (by decide) rfl
theorem jC_184 {ω : WW} (hW : FWC ω) : Is ω 184 100 6 := lit_C hW (by decide) rfl
theorem jC_185 {ω : WW} (hW : FWC ω) : Is ω 185 100 6 := lit_C hW (by decide) rfl
theorem jC_186 {ω : WW} (hW : FWC ω) : Is ω 186 9 4 := lit_C hW (by decide) rfl
theorem jC_187 {ω : WW} (hW : FWC ω) : Is ω 187 100 20 := lit_C hW (by decide) rfl
theorem jC_188 {ω : WW} (hW : FWC ω) : Is ω 188 100 20 := lit_C hW (by decide) rfl
theorem jC_189 {ω : WW} (hW : FWC ω) : Is ω 189 101 20 := lit_C hW (by decide) rfl
theorem jC_190 {ω : WW} (hW : FWC ω) : Is ω 190 100 3 := lit_C hW (by decide) rfl
theorem jM_0 {ω : WW} (hW : FWM ω) : Is ω 0 12 69 := lit_M hW rfl
theorem jM_1 {ω : WW} (hW : FWM ω) : Is ω 1 102 2000 := lit_M hW rfl
theorem jM_2 {ω : WW} (hW : FWM ω) : Is ω 2 102 2000 := lit_M hW rfl
theorem jM_3 {ω : WW} (hW : FWM ω) : Is ω 3 100 403 := lit_M hW rfl
theorem jM_4 {ω : WW} (hW : FWM ω) : Is ω 4 100 403 := lit_M hW rfl
theorem jM_5 {ω : WW} (hW : FWM ω) : Is ω 5 100 403 := lit_M hW rfl
theorem jM_6 {ω : WW} (hW : FWM ω) : Is ω 6 103 403 := lit_M hW rfl
theorem jM_7 {ω : WW} (hW : FWM ω) : Is ω 7 103 21 := lit_M hW rfl
theorem jM_8 {ω : WW} (hW : FWM ω) : Is ω 8 103 6 := lit_M hW rfl
theorem jM_9 {ω : WW} (hW : FWM ω) : Is ω 9 100 2 := lit_M hW rfl
theorem jM_10 {ω : WW} (hW : FWM ω) : Is ω 10 100 12 := lit_M hW rfl
theorem jM_11 {ω : WW} (hW : FWM ω) : Is ω 11 100 12 := lit_M hW rfl
theorem jM_12 {ω : WW} (hW : FWM ω) : Is ω 12 100 12 := lit_M hW rfl
theorem jM_13 {ω : WW} (hW : FWM ω) : Is ω 13 100 12 := lit_M hW rfl
theorem jM_14 {ω : WW} (hW : FWM ω) : Is ω 14 100 12 := lit_M hW rfl
theorem jM_15 {ω : WW} (hW : FWM ω) : Is ω 15 100 2 := lit_M hW rfl
theorem jM_16 {ω : WW} (hW : FWM ω) : Is ω 16 100 2 := lit_M hW rfl
theorem jM_17 {ω : WW} (hW : FWM ω) : Is ω 17 100 2 := lit_M hW rfl
theorem jM_18 {ω : WW} (hW : FWM ω) : Is ω 18 100 2 := lit_M hW rfl
theorem jM_19 {ω : WW} (hW : FWM ω) : Is ω 19 100 8 := lit_M hW rfl
theorem jM_20 {ω : WW} (hW : FWM ω) : Is ω 20 100 8 := lit_M hW rfl
theorem jM_21 {ω : WW} (hW : FWM ω) : Is ω 21 101 260 := lit_M hW rfl
theorem jM_22 {ω : WW} (hW : FWM ω) : Is ω 22 100 260 := lit_M hW rfl
theorem jM_23 {ω : WW} (hW : FWM ω) : Is ω 23 100 260 := lit_M hW rfl
theorem jM_24 {ω : WW} (hW : FWM ω) : Is ω 24 100 260 := lit_M hW rfl
theorem jM_25 {ω : WW} (hW : FWM ω) : Is ω 25 100 260 := lit_M hW rfl
theorem jM_26 {ω : WW} (hW : FWM ω) : Is ω 26 100 840 := lit_M hW rfl
theorem jM_27 {ω : WW} (hW : FWM ω) : Is ω 27 100 840 := lit_M hW rfl
theorem jM_28 {ω : WW} (hW : FWM ω) : Is ω 28 100 64 := lit_M hW rfl
theorem jM_29 {ω : WW} (hW : FWM ω) : Is ω 29 100 9 := lit_M hW rfl
theorem jM_30 {ω : WW} (hW : FWM ω) : Is ω 30 100 400 := lit_M hW rfl
theorem jM_31 {ω : WW} (hW : FWM ω) : Is ω 31 100 39 := lit_M hW rfl
theorem jM_32 {ω : WW} (hW : FWM ω) : Is ω 32 100 39 := lit_M hW rfl
theorem jM_33 {ω : WW} (hW : FWM ω) : Is ω 33 100 6 := lit_M hW rfl
theorem jM_34 {ω : WW} (hW : FWM ω) : Is ω 34 100 6 := lit_M hW rfl
theorem jM_35 {ω : WW} (hW : FWM ω) : Is ω 35 100 1560 := lit_M hW rfl
theorem jM_36 {ω : WW} (hW : FWM ω) : Is ω 36 100 186 := lit_M hW rfl
theorem jM_37 {ω : WW} (hW : FWM ω) : Is ω 37 100 217 := lit_M hW rfl
theorem jM_38 {ω : WW} (hW : FWM ω) : Is ω 38 100 39 := lit_M hW rfl
theorem jM_39 {ω : WW} (hW : FWM ω) : Is ω 39 100 384 := lit_M hW rfl
theorem jM_40 {ω : WW} (hW : FWM ω) : Is ω 40 100 6 := lit_M hW rfl
theorem jM_41 {ω : WW} (hW : FWM ω) : Is ω 41 100 6 := lit_M hW rfl
theorem jM_42 {ω : WW} (hW : FWM ω) : Is ω 42 100 6 := lit_M hW rfl
theorem jM_43 {ω : WW} (hW : FWM ω) : Is ω 43 100 64 := lit_M hW rfl
theorem jM_44 {ω : WW} (hW : FWM ω) : Is ω 44 100 20 := lit_M hW rfl
theorem jM_45 {ω : WW} (hW : FWM ω) : Is ω 45 100 20 := lit_M hW rfl
theorem jM_46 {ω : WW} (hW : FWM ω) : Is ω 46 101 20 := lit_M hW rfl
theorem jM_47 {ω : WW} (hW : FWM ω) : Is ω 47 101 3 := lit_M hW rfl
theorem jM_48 {ω : WW} (hW : FWM ω) : Is ω 48 100 117 := lit_M hW rfl
theorem lC_11 {ω : WW} (hW : FWC ω) : IsL ω 11 := ⟨jC_11 hW, jC_12 hW, jC_13 hW, jC_14 hW, jC_15 hW⟩
theorem lC_19 {ω : WW} (hW : FWC ω) : IsL ω 19 := ⟨jC_19 hW, jC_20 hW, jC_21 hW, jC_22 hW, jC_23 hW⟩
theorem sC_24 {ω : WW} (hW : FWC ω) : IsS ω 24 := ⟨jC_24 hW, jC_25 hW⟩
theorem sC_26 {ω : WW} (hW : FWC ω) : IsS ω 26 := ⟨jC_26 hW, jC_27 hW⟩
theorem sC_28 {ω : WW} (hW : FWC ω) : IsS ω 28 := ⟨jC_28 hW, jC_29 hW⟩
theorem sC_32 {ω : WW} (hW : FWC ω) : IsS ω 32 := ⟨jC_32 hW, jC_33 hW⟩
theorem sC_34 {ω : WW} (hW : FWC ω) : IsS ω 34 := ⟨jC_34 hW, jC_35 hW⟩
theorem sC_36 {ω : WW} (hW : FWC ω) : IsS ω 36 := ⟨jC_36 hW, jC_37 hW⟩
theorem sC_38 {ω : WW} (hW : FWC ω) : IsS ω 38 := ⟨jC_38 hW, jC_39 hW⟩
theorem sC_40 {ω : WW} (hW : FWC ω) : IsS ω 40 := ⟨jC_40 hW, jC_41 hW⟩
theorem sC_42 {ω : WW} (hW : FWC ω) : IsS ω 42 := ⟨jC_42 hW, jC_43 hW⟩
theorem sC_44 {ω : WW} (hW : FWC ω) : IsS ω 44 := ⟨jC_44 hW, jC_45 hW⟩
theorem sC_46 {ω : WW} (hW : FWC ω) : IsS ω 46 := ⟨jC_46 hW, jC_47 hW⟩
theorem sC_48 {ω : WW} (hW : FWC ω) : IsS ω 48 := ⟨jC_48 hW, jC_49 hW⟩
theorem sC_50 {ω : WW} (hW : FWC ω) : IsS ω 50 := ⟨jC_50 hW, jC_51 hW⟩
theorem sC_52 {ω : WW} (hW : FWC ω) : IsS ω 52 := ⟨jC_52 hW, jC_53 hW⟩
theorem sC_54 {ω : WW} (hW : FWC ω) : IsS ω 54 := ⟨jC_54 hW, jC_55 hW⟩
theorem sC_56 {ω : WW} (hW : FWC ω) : IsS ω 56 := ⟨jC_56 hW, jC_57 hW⟩
theorem sC_58 {ω : WW} (hW : FWC ω) : IsS ω 58 := ⟨jC_58 hW, jC_59 hW⟩
theorem sC_60 {ω : WW} (hW : FWC ω) : IsS ω 60 := ⟨jC_60 hW, jC_61 hW⟩
theorem sC_62 {ω : WW} (hW : FWC ω) : IsS ω 62 := ⟨jC_62 hW, jC_63 hW⟩
theorem sC_64 {ω : WW} (hW : FWC ω) : IsS ω 64 := ⟨jC_64 hW, jC_65 hW⟩
theorem sC_66 {ω : WW} (hW : FWC ω) : IsS ω 66 := ⟨jC_66 hW, jC_67 hW⟩
theorem sC_68 {ω : WW} (hW : FWC ω) : IsS ω 68 := ⟨jC_68 hW, jC_69 hW⟩
theorem sC_70 {ω : WW} (hW : FWC ω) : IsS ω 70 := ⟨jC_70 hW, jC_71 hW⟩
theorem sC_72 {ω : WW} (hW : FWC ω) : IsS ω 72 := ⟨jC_72 hW, jC_73 hW⟩
theorem sC_74 {ω : WW} (hW : FWC ω) : IsS ω 74 := ⟨jC_74 hW, jC_75 hW⟩
theorem sC_76 {ω : WW} (hW : FWC ω) : IsS ω 76 := ⟨jC_76 hW, jC_77 hW⟩
theorem sC_78 {ω : WW} (hW : FWC ω) : IsS ω 78 := ⟨jC_78 hW, jC_79 hW⟩
theorem sC_80 {ω : WW} (hW : FWC ω) : IsS ω 80 := ⟨jC_80 hW, jC_81 hW⟩
theorem sC_82 {ω : WW} (hW : FWC ω) : IsS ω 82 := ⟨jC_82 hW, jC_83 hW⟩
theorem sC_84 {ω : WW} (hW : FWC ω) : IsS ω 84 := ⟨jC_84 hW, jC_85 hW⟩
theorem sC_86 {ω : WW} (hW : FWC ω) : IsS ω 86 := ⟨jC_86 hW, jC_87 hW⟩
theorem sC_88 {ω : WW} (hW : FWC ω) : IsS ω 88 := ⟨jC_88 hW, jC_89 hW⟩
theorem sC_90 {ω : WW} (hW : FWC ω) : IsS ω 90 := ⟨jC_90 hW, jC_91 hW⟩
theorem sC_92 {ω : WW} (hW : FWC ω) : IsS ω 92 := ⟨jC_92 hW, jC_93 hW⟩
theorem sC_94 {ω : WW} (hW : FWC ω) : IsS ω 94 := ⟨jC_94 hW, jC_95 hW⟩
theorem sC_96 {ω : WW} (hW : FWC ω) : IsS ω 96 := ⟨jC_96 hW, jC_97 hW⟩
theorem sC_98 {ω : WW} (hW : FWC ω) : IsS ω 98 := ⟨jC_98 hW, jC_99 hW⟩
theorem sC_100 {ω : WW} (hW : FWC ω) : IsS ω 100 := ⟨jC_100 hW, jC_101 hW⟩
theorem sC_102 {ω : WW} (hW : FWC ω) : IsS ω 102 := ⟨jC_102 hW, jC_103 hW⟩
theorem sC_104 {ω : WW} (hW : FWC ω) : IsS ω 104 := ⟨jC_104 hW, jC_105 hW⟩
theorem sC_106 {ω : WW} (hW : FWC ω) : IsS ω 106 := ⟨jC_106 hW, jC_107 hW⟩
theorem sC_108 {ω : WW} (hW : FWC ω) : IsS ω 108 := ⟨jC_108 hW, jC_109 hW⟩
theorem sC_110 {ω : WW} (hW : FWC ω) : IsS ω 110 := ⟨jC_110 hW, jC_111 hW⟩
theorem sC_113 {ω : WW} (hW : FWC ω) : IsS ω 113 := ⟨jC_113 hW, jC_114 hW⟩
theorem sC_115 {ω : WW} (hW : FWC ω) : IsS ω 115 := ⟨jC_115 hW, jC_116 hW⟩
theorem sC_117 {ω : WW} (hW : FWC ω) : IsS ω 117 := ⟨jC_117 hW, jC_118 hW⟩
theorem sC_121 {ω : WW} (hW : FWC ω) : IsS ω 121 := ⟨jC_121 hW, jC_122 hW⟩
theorem sC_140 {ω : WW} (hW : FWC ω) : IsS ω 140 := ⟨jC_140 hW, jC_141 hW⟩
theorem sC_159 {ω : WW} (hW : FWC ω) : IsS ω 159 := ⟨jC_159 hW, jC_160 hW⟩
theorem qC_9 {ω : WW} (hW : FWC ω) : IsQ ω 9 := ⟨jC_9 hW, jC_10 hW, lC_11 hW⟩
theorem qC_17 {ω : WW} (hW : FWC ω) : IsQ ω 17 := ⟨jC_17 hW, jC_18 hW, lC_19 hW⟩
theorem hC_120 {ω : WW} (hW : FWC ω) : IsH ω 120 31 := by
  refine ⟨jC_120 hW, sC_121 hW, jC_123 hW, fun i hi => ?_, jC_130 hW, fun i hi => ?_, jC_138 hW⟩
  · match i, hi with
    | 0, _ => exact jC_124 hW
    | 1, _ => exact jC_125 hW
    | 2, _ => exact jC_126 hW
    | 3, _ => exact jC_127 hW
    | 4, _ => exact jC_128 hW
    | 5, _ => exact jC_129 hW
    | i + 6, hi => omega
  · match i, hi with
    | 0, _ => exact jC_131 hW
    | 1, _ => exact jC_132 hW
    | 2, _ => exact jC_133 hW
    | 3, _ => exact jC_134 hW
    | 4, _ => exact jC_135 hW
    | 5, _ => exact jC_136 hW
    | 6, _ => exact jC_137 hW
    | i + 7, hi => omega
theorem hC_139 {ω : WW} (hW : FWC ω) : IsH ω 139 11 := by
  refine ⟨jC_139 hW, sC_140 hW, jC_142 hW, fun i hi => ?_, jC_149 hW, fun i hi => ?_, jC_157 hW⟩
  · match i, hi with
    | 0, _ => exact jC_143 hW
    | 1, _ => exact jC_144 hW
    | 2, _ => exact jC_145 hW
    | 3, _ => exact jC_146 hW
    | 4, _ => exact jC_147 hW
    | 5, _ => exact jC_148 hW
    | i + 6, hi => omega
  · match i, hi with
    | 0, _ => exact jC_150 hW
    | 1, _ => exact jC_151 hW
    | 2, _ => exact jC_152 hW
    | 3, _ => exact jC_153 hW
    | 4, _ => exact jC_154 hW
    | 5, _ => exact jC_155 hW
    | 6, _ => exact jC_156 hW
    | i + 7, hi => omega
theorem hC_158 {ω : WW} (hW : FWC ω) : IsH ω 158 11 := by
  refine ⟨jC_158 hW, sC_159 hW, jC_161 hW, fun i hi => ?_, jC_168 hW, fun i hi => ?_, jC_176 hW⟩
  · match i, hi with
    | 0, _ => exact jC_162 hW
    | 1, _ => exact jC_163 hW
    | 2, _ => exact jC_164 hW
    | 3, _ => exact jC_165 hW
    | 4, _ => exact jC_166 hW
    | 5, _ => exact jC_167 hW
    | i + 6, hi => omega
  · match i, hi with
    | 0, _ => exact jC_169 hW
    | 1, _ => exact jC_170 hW
    | 2, _ => exact jC_171 hW
    | 3, _ => exact jC_172 hW
    | 4, _ => exact jC_173 hW
    | 5, _ => exact jC_174 hW
    | 6, _ => exact jC_175 hW
    | i + 7, hi => omega
theorem pC_31 {ω : WW} (hW : FWC ω) {i : Nat} (hi : i < 40) : IsS ω (31 + 1 + 2 * i) := by
  match i, hi with
  | 0, _ => exact sC_32 hW
  | 1, _ => exact sC_34 hW
  | 2, _ => exact sC_36 hW
  | 3, _ => exact sC_38 hW
  | 4, _ => exact sC_40 hW
  | 5, _ => exact sC_42 hW
  | 6, _ => exact sC_44 hW
  | 7, _ => exact sC_46 hW
  | 8, _ => exact sC_48 hW
  | 9, _ => exact sC_50 hW
  | 10, _ => exact sC_52 hW
  | 11, _ => exact sC_54 hW
  | 12, _ => exact sC_56 hW
  | 13, _ => exact sC_58 hW
  | 14, _ => exact sC_60 hW
  | 15, _ => exact sC_62 hW
  | 16, _ => exact sC_64 hW
  | 17, _ => exact sC_66 hW
  | 18, _ => exact sC_68 hW
  | 19, _ => exact sC_70 hW
  | 20, _ => exact sC_72 hW
  | 21, _ => exact sC_74 hW
  | 22, _ => exact sC_76 hW
  | 23, _ => exact sC_78 hW
  | 24, _ => exact sC_80 hW
  | 25, _ => exact sC_82 hW
  | 26, _ => exact sC_84 hW
  | 27, _ => exact sC_86 hW
  | 28, _ => exact sC_88 hW
  | 29, _ => exact sC_90 hW
  | 30, _ => exact sC_92 hW
  | 31, _ => exact sC_94 hW
  | 32, _ => exact sC_96 hW
  | 33, _ => exact sC_98 hW
  | 34, _ => exact sC_100 hW
  | 35, _ => exact sC_102 hW
  | 36, _ => exact sC_104 hW
  | 37, _ => exact sC_106 hW
  | 38, _ => exact sC_108 hW
  | 39, _ => exact sC_110 hW
  | i + 40, hi => omega
theorem pC_112 {ω : WW} (hW : FWC ω) {i : Nat} (hi : i < 3) : IsS ω (112 + 1 + 2 * i) := by
  match i, hi with
  | 0, _ => exact sC_113 hW
  | 1, _ => exact sC_115 hW
  | 2, _ => exact sC_117 hW
  | i + 3, hi => omega
def bd {α β : Type} (a : α) (f : α → β) : β := f a
theorem bd_e {α β : Type} {a : α} {f : α → β} {b : β} (h : bd a f = b) : ∃ x, x = a ∧ f x = b := ⟨a, rfl, h⟩
def b1 {α γ : Type} (o : Option α) (k : α → Option γ) : Option γ := match o with
  | some a => k a
  | none => none
theorem b1_e {α γ : Type} {o : Option α} {k : α → Option γ} {c : γ} (h : b1 o k = some c) : ∃ a, o = some a ∧ k a = some c := by
  cases o with
  | none => cases h
  | some a => exact ⟨a, rfl, h⟩
def b2 {α β γ : Type} (o : Option (α × β)) (k : α → β → Option γ) : Option γ := match o with
  | some a => k a.1 a.2
  | none => none
theorem b2_e {α β γ : Type} {o : Option (α × β)} {k : α → β → Option γ} {c : γ} (h : b2 o k = some c) : ∃ a b, o = some (a, b) ∧ k a b = some c := by
  cases o with
  | none => cases h
  | some a => exact ⟨a.1, a.2, rfl, h⟩
def gd {α : Type} (b : Bool) (k : Option α) : Option α := match b with
  | true => k
  | false => none
theorem gd_e {α : Type} {b : Bool} {k : Option α} {c : α} (h : gd b k = some c) : b = true ∧ k = some c := by
  cases b with
  | false => cases h
  | true => exact ⟨rfl, h⟩
def dz (y : Int32) : Bool := decide (¬ y = 0)
theorem dz_e {y : Int32} (h : dz y = true) : ¬ y = 0 := of_decide_eq_true h
theorem ite_t {α : Type} {c : Prop} [Decidable c] {a b r : α} (hc : c) (h : (if c then a else b) = r) : a = r := by rw [if_pos hc] at h; exact h
theorem ite_f {α : Type} {c : Prop} [Decidable c] {a b r : α} (hc : ¬ c) (h : (if c then a else b) = r) : b = r := by rw [if_neg hc] at h; exact h
def cpo (sp dp n : Int32) (n0 n1 : Nat) : Bool := decide ((0 ≤ sp ∧ 0 ≤ dp ∧ 0 ≤ n) ∧ sp.toNatClampNeg + n.toNatClampNeg ≤ n0 ∧ dp.toNatClampNeg + n.toNatClampNeg ≤ n1)
theorem cpo_e {sp dp n : Int32} {n0 n1 : Nat} (h : cpo sp dp n n0 n1 = true) : (0 ≤ sp ∧ 0 ≤ dp ∧ 0 ≤ n) ∧ sp.toNatClampNeg + n.toNatClampNeg ≤ n0 ∧ dp.toNatClampNeg + n.toNatClampNeg ≤ n1 := of_decide_eq_true h
def FU : Nat := 100000
theorem ne_ti {x k : Int32} {z : Int} (h : ¬ x = k) (hz : k.toInt = z) : x.toInt ≠ z := fun e => h (Int32.toInt_inj.mp (e.trans hz.symm))
section SR
variable {p : Program} {l : Launch} {e : Env} {R : Room} {s : State} {m : MethodId} {args : Array Value} {below : List Frame} {meth : Method} {c : Code} {H : Heap} {locs : List Loc} {cells slots : Nat} {Q : State → Prop}
variable {cc : ByteArray} {pc nL : Nat} {ls : Array Slot} {rest : List Value} {ω : WW} {μ : Mem} {own : String}
theorem h_topi {x y : Int32} (e1 : y = x) (k : W p l e R s m args below meth c H locs cells slots Q (F0 m pc ls (.int y :: rest))) : W p l e R s m args below meth c H locs cells slots Q (F0 m pc ls (.int x :: rest)) := e1 ▸ k
theorem h_topl {x y : Int64} (e1 : y = x) (k : W p l e R s m args below meth c H locs cells slots Q (F0 m pc ls (.long y :: rest))) : W p l e R s m args below meth c H locs cells slots Q (F0 m pc ls (.long x :: rest)) := e1 ▸ k
theorem Hd.to {μ' : Mem} (e1 : μ' = μ) (h : Hd ω μ H) : Hd ω μ' H := e1 ▸ h
theorem h_zret {v : Option Value} {μ' : Mem} {x y : Int32} (C : Cx ω p s m args c cc nL own) (hr : meth.sig.returnType = some .boolean) (hlocks : meth.locks = false) (hH : Hd ω μ H) (hS : FS ω s H locs) (hn : narrow .boolean (.int x) = .int y) (h : (some (.int y), μ) = (v, μ')) (hdg : decode cc pc = .ok (.ireturn, 1)) :
    W p l e R s m args below meth c H locs cells slots (MQ below (QR ω v μ') args s cells slots (wA ω)) (F0 m pc ls [.int x]) := by
  cases h
  have hexec := C.1
  have hb := C.2.1
  intro T hT X
  obtain ⟨fs, hret, hrun, hended, hW, hframe⟩ := X.leave (v := some (.int y)) (fun h => by rw [hr] at h; cases h)
  have hmeth' : T.vm.method? m = some meth := X.method'
  refine ⟨T.setFrames fs, ?_, .returned (some (.int y)), hrun, hended, ⟨rfl, (by show Hd ω μ T.heap; rw [hT]; exact hH), hS.1.F hT, (by show T.heap.size = _; rw [hT]; exact hS.2)⟩, locs, ⟨⟨_, rfl⟩, hW, hframe⟩, hS.1.2.2⟩
  jvm_step X.here [X.here.top, hexec, hb, hdg, hmeth', hr, hn]
  (try refine ⟨rfl, ?_⟩); (try refine ⟨rfl, ?_⟩)
  first | (intro acts; rw [hret _ acts rfl rfl rfl]) | rw [hret _ _ rfl rfl rfl]
  exact Steps.refl _

theorem cVi {y : MethodName} {cy : ByteArray} {ny np d : Nat} {ry : Option FieldType} {as st : List Value} {rr : Int32} {μ1 : Mem} {index j t n : Nat} {r : vw_C} (hM : Con l y cy ny ry d ω (.ref (wB ω + j) :: as) μ (some (.int rr)) μ1) (C : Cx ω p s m args c cc nL own) (hl : ls.size = nL) (hH : Hd ω μ H) (hS : FS ω s H locs) (hst : st = as.reverse ++ .ref (wB ω + j) :: rest) (hj : Is ω j t n) (hr : classes[t]? = some r) (hws : Cond.selects r.1 y y ∈ lw_tbl) (hwi : Cond.instanceMethod y ∈ lw_tbl) (hy : Mw y cy ny ry np) (hw : Cond.methodLink own index y ∈ lw_tbl)
    (hn : as.length = np) (hR : d + 1 ≤ R.frames ∧ 8 + (ny + 11) + 64 * d ≤ R.locals) (hrest : (rest.map fun v => v.category).sum ≤ 8) (hcs : cells ≤ R.cells ∧ slots ≤ R.slots) (ht : t < 100) (hdg : decode cc pc = .ok (.invokevirtual index, 3))
    (kk : ∀ (H1 : Heap) (locs1 : List Loc), Hd ω μ1 H1 → FS ω s H1 locs1 → W p l e R s m args below meth c H1 locs1 cells slots Q (F0 m (pc + 3) ls (.int rr :: rest))) : W p l e R s m args below meth c H locs cells slots Q (F0 m pc ls st) := by
  subst hst
  exact h_callV C hl hH hS hM hy hw hwi hws hj.1 hj.2.1 ht hr hn hR hrest hcs hdg kk
theorem cSi {y : MethodName} {cy : ByteArray} {ny np d : Nat} {ry : Option FieldType} {as st : List Value} {rr : Int32} {μ1 : Mem} {index : Nat} (hM : Con l y cy ny ry d ω as μ (some (.int rr)) μ1) (C : Cx ω p s m args c cc nL own) (hl : ls.size = nL) (hH : Hd ω μ H) (hS : FS ω s H locs) (hst : st = as.reverse ++ rest) (hwi : Cond.static y ∈ lw_tbl) (hy : Mw y cy ny ry np) (hw : Cond.methodLink own index y ∈ lw_tbl)
    (hn : as.length = np) (hR : d + 1 ≤ R.frames ∧ 8 + (ny + 11) + 64 * d ≤ R.locals) (hrest : (rest.map fun v => v.category).sum ≤ 8) (hcs : cells ≤ R.cells ∧ slots ≤ R.slots) (hdg : decode cc pc = .ok (.invokestatic index, 3))
    (kk : ∀ (H1 : Heap) (locs1 : List Loc), Hd ω μ1 H1 → FS ω s H1 locs1 → W p l e R s m args below meth c H1 locs1 cells slots Q (F0 m (pc + 3) ls (.int rr :: rest))) : W p l e R s m args below meth c H locs cells slots Q (F0 m pc ls st) := by
  subst hst
  exact h_callS C hl hH hS hM hy hw hwi hn hR hrest hcs hdg kk
theorem cVl {y : MethodName} {cy : ByteArray} {ny np d : Nat} {ry : Option FieldType} {as st : List Value} {rr : Int64} {μ1 : Mem} {index j t n : Nat} {r : vw_C} (hM : Con l y cy ny ry d ω (.ref (wB ω + j) :: as) μ (some (.long rr)) μ1) (C : Cx ω p s m args c cc nL own) (hl : ls.size = nL) (hH : Hd ω μ H) (hS : FS ω s H locs) (hst : st = as.reverse ++ .ref (wB ω + j) :: rest) (hj : Is ω j t n) (hr : classes[t]? = some r) (hws : Cond.selects r.1 y y ∈ lw_tbl) (hwi : Cond.instanceMethod y ∈ lw_tbl) (hy : Mw y cy ny ry np) (hw : Cond.methodLink own index y ∈ lw_tbl)
    (hn : as.length = np) (hR : d + 1 ≤ R.frames ∧ 8 + (ny + 11) + 64 * d ≤ R.locals) (hrest : (rest.map fun v => v.category).sum ≤ 8) (hcs : cells ≤ R.cells ∧ slots ≤ R.slots) (ht : t < 100) (hdg : decode cc pc = .ok (.invokevirtual index, 3))
    (kk : ∀ (H1 : Heap) (locs1 : List Loc), Hd ω μ1 H1 → FS ω s H1 locs1 → W p l e R s m args below meth c H1 locs1 cells slots Q (F0 m (pc + 3) ls (.long rr :: rest))) : W p l e R s m args below meth c H locs cells slots Q (F0 m pc ls st) := by
  subst hst
  exact h_callV C hl hH hS hM hy hw hwi hws hj.1 hj.2.1 ht hr hn hR hrest hcs hdg kk
theorem cSl {y : MethodName} {cy : ByteArray} {ny np d : Nat} {ry : Option FieldType} {as st : List Value} {rr : Int64} {μ1 : Mem} {index : Nat} (hM : Con l y cy ny ry d ω as μ (some (.long rr)) μ1) (C : Cx ω p s m args c cc nL own) (hl : ls.size = nL) (hH : Hd ω μ H) (hS : FS ω s H locs) (hst : st = as.reverse ++ rest) (hwi : Cond.static y ∈ lw_tbl) (hy : Mw y cy ny ry np) (hw : Cond.methodLink own index y ∈ lw_tbl)
    (hn : as.length = np) (hR : d + 1 ≤ R.frames ∧ 8 + (ny + 11) + 64 * d ≤ R.locals) (hrest : (rest.map fun v => v.category).sum ≤ 8) (hcs : cells ≤ R.cells ∧ slots ≤ R.slots) (hdg : decode cc pc = .ok (.invokestatic index, 3))
    (kk : ∀ (H1 : Heap) (locs1 : List Loc), Hd ω μ1 H1 → FS ω s H1 locs1 → W p l e R s m args below meth c H1 locs1 cells slots Q (F0 m (pc + 3) ls (.long rr :: rest))) : W p l e R s m args below meth c H locs cells slots Q (F0 m pc ls st) := by
  subst hst
  exact h_callS C hl hH hS hM hy hw hwi hn hR hrest hcs hdg kk
theorem cVv {y : MethodName} {cy : ByteArray} {ny np d : Nat} {ry : Option FieldType} {as st : List Value} {μ1 : Mem} {index j t n : Nat} {r : vw_C} (hM : Con l y cy ny ry d ω (.ref (wB ω + j) :: as) μ (none) μ1) (C : Cx ω p s m args c cc nL own) (hl : ls.size = nL) (hH : Hd ω μ H) (hS : FS ω s H locs) (hst : st = as.reverse ++ .ref (wB ω + j) :: rest) (hj : Is ω j t n) (hr : classes[t]? = some r) (hws : Cond.selects r.1 y y ∈ lw_tbl) (hwi : Cond.instanceMethod y ∈ lw_tbl) (hy : Mw y cy ny ry np) (hw : Cond.methodLink own index y ∈ lw_tbl)
    (hn : as.length = np) (hR : d + 1 ≤ R.frames ∧ 8 + (ny + 11) + 64 * d ≤ R.locals) (hrest : (rest.map fun v => v.category).sum ≤ 8) (hcs : cells ≤ R.cells ∧ slots ≤ R.slots) (ht : t < 100) (hdg : decode cc pc = .ok (.invokevirtual index, 3))
    (kk : ∀ (H1 : Heap) (locs1 : List Loc), Hd ω μ1 H1 → FS ω s H1 locs1 → W p l e R s m args below meth c H1 locs1 cells slots Q (F0 m (pc + 3) ls (rest))) : W p l e R s m args below meth c H locs cells slots Q (F0 m pc ls st) := by
  subst hst
  exact h_callV C hl hH hS hM hy hw hwi hws hj.1 hj.2.1 ht hr hn hR hrest hcs hdg kk
theorem cSv {y : MethodName} {cy : ByteArray} {ny np d : Nat} {ry : Option FieldType} {as st : List Value} {μ1 : Mem} {index : Nat} (hM : Con l y cy ny ry d ω as μ (none) μ1) (C : Cx ω p s m args c cc nL own) (hl : ls.size = nL) (hH : Hd ω μ H) (hS : FS ω s H locs) (hst : st = as.reverse ++ rest) (hwi : Cond.static y ∈ lw_tbl) (hy : Mw y cy ny ry np) (hw : Cond.methodLink own index y ∈ lw_tbl)
    (hn : as.length = np) (hR : d + 1 ≤ R.frames ∧ 8 + (ny + 11) + 64 * d ≤ R.locals) (hrest : (rest.map fun v => v.category).sum ≤ 8) (hcs : cells ≤ R.cells ∧ slots ≤ R.slots) (hdg : decode cc pc = .ok (.invokestatic index, 3))
    (kk : ∀ (H1 : Heap) (locs1 : List Loc), Hd ω μ1 H1 → FS ω s H1 locs1 → W p l e R s m args below meth c H1 locs1 cells slots Q (F0 m (pc + 3) ls (rest))) : W p l e R s m args below meth c H locs cells slots Q (F0 m pc ls st) := by
  subst hst
  exact h_callS C hl hH hS hM hy hw hwi hn hR hrest hcs hdg kk
theorem h_mmin (C : Cx ω p s m args c cc nL own) (hl : ls.size = nL) {index : Nat} (hw : Cond.methodLink own index Lib.Math.min.name ∈ lw_tbl) (hframes : 1 ≤ R.frames) (hlocals : (rest.map fun v => v.category).sum + 13 ≤ R.locals) (hcs : cells ≤ R.cells ∧ slots ≤ R.slots) {x y : Int32} (hdg : decode cc pc = .ok (.invokestatic index, 3))
    (kk : W p l e R s m args below meth c H locs cells slots Q (F0 m (pc + 3) ls (.int (if y < x then y else x) :: rest))) : W p l e R s m args below meth c H locs cells slots Q (F0 m pc ls (.int y :: .int x :: rest)) :=
  va_mmin C.1 C.2.1 (C.2.2.1.trans hl.symm) C.2.2.2.1 (C.2.2.2.2.1 _ (tg hw rfl)) (C.2.2.2.2.1 _ (tg wd_600 rfl)) (C.2.2.2.2.1 _ (tg wd_115 rfl)) (C.2.2.2.2.1 _ (tg wd_601 rfl)) hframes hlocals hcs.1 hcs.2 hdg kk
theorem h_mmax (C : Cx ω p s m args c cc nL own) (hl : ls.size = nL) {index : Nat} (hw : Cond.methodLink own index Lib.Math.max.name ∈ lw_tbl) (hframes : 1 ≤ R.frames) (hlocals : (rest.map fun v => v.category).sum + 13 ≤ R.locals) (hcs : cells ≤ R.cells ∧ slots ≤ R.slots) {x y : Int32} (hdg : decode cc pc = .ok (.invokestatic index, 3))
    (kk : W p l e R s m args below meth c H locs cells slots Q (F0 m (pc + 3) ls (.int (if x < y then y else x) :: rest))) : W p l e R s m args below meth c H locs cells slots Q (F0 m pc ls (.int y :: .int x :: rest)) :=
  va_mmax C.1 C.2.1 (C.2.2.1.trans hl.symm) C.2.2.2.1 (C.2.2.2.2.1 _ (tg hw rfl)) (C.2.2.2.2.1 _ (tg wd_597 rfl)) (C.2.2.2.2.1 _ (tg wd_115 rfl)) (C.2.2.2.2.1 _ (tg wd_598 rfl)) hframes hlocals hcs.1 hcs.2 hdg kk
theorem h_mabs (C : Cx ω p s m args c cc nL own) (hl : ls.size = nL) {index : Nat} (hw : Cond.methodLink own index Lib.Math.abs.name ∈ lw_tbl) (hframes : 1 ≤ R.frames) (hlocals : (rest.map fun v => v.category).sum + 13 ≤ R.locals) (hcs : cells ≤ R.cells ∧ slots ≤ R.slots) {x : Int32} (hdg : decode cc pc = .ok (.invokestatic index, 3))
    (kk : W p l e R s m args below meth c H locs cells slots Q (F0 m (pc + 3) ls (.int (if 0 ≤ x then x else 0 - x) :: rest))) : W p l e R s m args below meth c H locs cells slots Q (F0 m pc ls (.int x :: rest)) :=
  va_mabs C.1 C.2.1 (C.2.2.1.trans hl.symm) C.2.2.2.1 (C.2.2.2.2.1 _ (tg hw rfl)) (C.2.2.2.2.1 _ (tg wd_1033 rfl)) (C.2.2.2.2.1 _ (tg wd_115 rfl)) (C.2.2.2.2.1 _ (tg wd_1034 rfl)) hframes (by omega) hcs.1 hcs.2 hdg kk
theorem g_189 (C : Cx ω p s m args c cc nL RX8) (hH : Hd ω μ H) {j n i : Nat} (hj : Is ω j 8 n) (hi : j + 1 = i) (hdg : decode cc pc = .ok (.getfield 11, 3))
    (kk : W p l e R s m args below meth c H locs cells slots Q (F0 m (pc + 3) ls (.ref (wB ω + i) :: rest))) : W p l e R s m args below meth c H locs cells slots Q (F0 m pc ls (.ref (wB ω + j) :: rest)) :=
  h_getr C hH hj.1 hj.2.1 (by decide) rfl (show 0 < 5 by decide) rfl (by decide) (hj.2.2 _) hi wd_189 hdg kk
theorem g_190 (C : Cx ω p s m args c cc nL RX8) (hH : Hd ω μ H) {j n i : Nat} (hj : Is ω j 8 n) (hi : j + 2 = i) (hdg : decode cc pc = .ok (.getfield 29, 3))
    (kk : W p l e R s m args below meth c H locs cells slots Q (F0 m (pc + 3) ls (.ref (wB ω + i) :: rest))) : W p l e R s m args below meth c H locs cells slots Q (F0 m pc ls (.ref (wB ω + j) :: rest)) :=
  h_getr C hH hj.1 hj.2.1 (by decide) rfl (show 1 < 5 by decide) rfl (by decide) (hj.2.2 _) hi wd_190 hdg kk
theorem g_191 (C : Cx ω p s m args c cc nL RX4) (hH : Hd ω μ H) {j n i : Nat} (hj : Is ω j 8 n) (hi : j + 2 = i) (hdg : decode cc pc = .ok (.getfield 46, 3))
    (kk : W p l e R s m args below meth c H locs cells slots Q (F0 m (pc + 3) ls (.ref (wB ω + i) :: rest))) : W p l e R s m args below meth c H locs cells slots Q (F0 m pc ls (.ref (wB ω + j) :: rest)) :=
  h_getr C hH hj.1 hj.2.1 (by decide) rfl (show 1 < 5 by decide) rfl (by decide) (hj.2.2 _) hi wd_191 hdg kk
theorem g_192 (C : Cx ω p s m args c cc nL RX8) (hH : Hd ω μ H) {j n i : Nat} (hj : Is ω j 8 n) (hi : j + 3 = i) (hdg : decode cc pc = .ok (.getfield 33, 3))
    (kk : W p l e R s m args below meth c H locs cells slots Q (F0 m (pc + 3) ls (.ref (wB ω + i) :: rest))) : W p l e R s m args below meth c H locs cells slots Q (F0 m pc ls (.ref (wB ω + j) :: rest)) :=
  h_getr C hH hj.1 hj.2.1 (by decide) rfl (show 2 < 5 by decide) rfl (by decide) (hj.2.2 _) hi wd_192 hdg kk
theorem g_193 (C : Cx ω p s m args c cc nL RX4) (hH : Hd ω μ H) {j n i : Nat} (hj : Is ω j 8 n) (hi : j + 3 = i) (hdg : decode cc pc = .ok (.getfield 73, 3))
    (kk : W p l e R s m args below meth c H locs cells slots Q (F0 m (pc + 3) ls (.ref (wB ω + i) :: rest))) : W p l e R s m args below meth c H locs cells slots Q (F0 m pc ls (.ref (wB ω + j) :: rest)) :=
  h_getr C hH hj.1 hj.2.1 (by decide) rfl (show 2 < 5 by decide) rfl (by decide) (hj.2.2 _) hi wd_193 hdg kk
theorem g_194 (C : Cx ω p s m args c cc nL RX8) (hH : Hd ω μ H) {j n i : Nat} (hj : Is ω j 8 n) (hi : j + 4 = i) (hdg : decode cc pc = .ok (.getfield 36, 3))
    (kk : W p l e R s m args below meth c H locs cells slots Q (F0 m (pc + 3) ls (.ref (wB ω + i) :: rest))) : W p l e R s m args below meth c H locs cells slots Q (F0 m pc ls (.ref (wB ω + j) :: rest)) :=
  h_getr C hH hj.1 hj.2.1 (by decide) rfl (show 3 < 5 by decide) rfl (by decide) (hj.2.2 _) hi wd_194 hdg kk
theorem g_195 (C : Cx ω p s m args c cc nL RX4) (hH : Hd ω μ H) {j n i : Nat} (hj : Is ω j 8 n) (hi : j + 4 = i) (hdg : decode cc pc = .ok (.getfield 138, 3))
    (kk : W p l e R s m args below meth c H locs cells slots Q (F0 m (pc + 3) ls (.ref (wB ω + i) :: rest))) : W p l e R s m args below meth c H locs cells slots Q (F0 m pc ls (.ref (wB ω + j) :: rest)) :=
  h_getr C hH hj.1 hj.2.1 (by decide) rfl (show 3 < 5 by decide) rfl (by decide) (hj.2.2 _) hi wd_195 hdg kk
theorem g_196 (C : Cx ω p s m args c cc nL RX8) (hH : Hd ω μ H) {j n : Nat} (hj : Is ω j 8 n) (hdg : decode cc pc = .ok (.getfield 39, 3))
    (kk : W p l e R s m args below meth c H locs cells slots Q (F0 m (pc + 3) ls (.int (μ.1 j 4) :: rest))) : W p l e R s m args below meth c H locs cells slots Q (F0 m pc ls (.ref (wB ω + j) :: rest)) :=
  h_geti C hH hj.1 hj.2.1 (by decide) rfl (show 4 < 5 by decide) rfl rfl wd_196 hdg kk
theorem p_196 (C : Cx ω p s m args c cc nL RX8) (hH : Hd ω μ H) (hS : FS ω s H locs) {j n : Nat} {x : Int32} (hj : Is ω j 8 n) (hdg : decode cc pc = .ok (.putfield 39, 3))
    (kk : ∀ (H1 : Heap) (locs1 : List Loc), Hd ω (upI μ j 4 x) H1 → FS ω s H1 locs1 → W p l e R s m args below meth c H1 locs1 cells slots Q (F0 m (pc + 3) ls rest)) : W p l e R s m args below meth c H locs cells slots Q (F0 m pc ls (.int x :: .ref (wB ω + j) :: rest)) :=
  h_puti (ty := .int) C hH hS hj.1 hj.2.1 (by decide) rfl (show 4 < 5 by decide) rfl rfl wd_196 rfl rfl rfl hdg kk
theorem g_235 (C : Cx ω p s m args c cc nL RX1) (hH : Hd ω μ H) {j n i : Nat} (hj : Is ω j 1 n) (hi : j + 1 = i) (hdg : decode cc pc = .ok (.getfield 11, 3))
    (kk : W p l e R s m args below meth c H locs cells slots Q (F0 m (pc + 3) ls (.ref (wB ω + i) :: rest))) : W p l e R s m args below meth c H locs cells slots Q (F0 m pc ls (.ref (wB ω + j) :: rest)) :=
  h_getr C hH hj.1 hj.2.1 (by decide) rfl (show 0 < 5 by decide) rfl (by decide) (hj.2.2 _) hi wd_235 hdg kk
theorem g_236 (C : Cx ω p s m args c cc nL RX1) (hH : Hd ω μ H) {j n i : Nat} (hj : Is ω j 1 n) (hi : j + 2 = i) (hdg : decode cc pc = .ok (.getfield 15, 3))
    (kk : W p l e R s m args below meth c H locs cells slots Q (F0 m (pc + 3) ls (.ref (wB ω + i) :: rest))) : W p l e R s m args below meth c H locs cells slots Q (F0 m pc ls (.ref (wB ω + j) :: rest)) :=
  h_getr C hH hj.1 hj.2.1 (by decide) rfl (show 1 < 5 by decide) rfl (by decide) (hj.2.2 _) hi wd_236 hdg kk
theorem g_237 (C : Cx ω p s m args c cc nL RX1) (hH : Hd ω μ H) {j n i : Nat} (hj : Is ω j 1 n) (hi : j + 3 = i) (hdg : decode cc pc = .ok (.getfield 18, 3))
    (kk : W p l e R s m args below meth c H locs cells slots Q (F0 m (pc + 3) ls (.ref (wB ω + i) :: rest))) : W p l e R s m args below meth c H locs cells slots Q (F0 m pc ls (.ref (wB ω + j) :: rest)) :=
  h_getr C hH hj.1 hj.2.1 (by decide) rfl (show 2 < 5 by decide) rfl (by decide) (hj.2.2 _) hi wd_237 hdg kk
theorem g_238 (C : Cx ω p s m args c cc nL RX1) (hH : Hd ω μ H) {j n i : Nat} (hj : Is ω j 1 n) (hi : j + 4 = i) (hdg : decode cc pc = .ok (.getfield 21, 3))
    (kk : W p l e R s m args below meth c H locs cells slots Q (F0 m (pc + 3) ls (.ref (wB ω + i) :: rest))) : W p l e R s m args below meth c H locs cells slots Q (F0 m pc ls (.ref (wB ω + j) :: rest)) :=
  h_getr C hH hj.1 hj.2.1 (by decide) rfl (show 3 < 5 by decide) rfl (by decide) (hj.2.2 _) hi wd_238 hdg kk
theorem g_239 (C : Cx ω p s m args c cc nL RX1) (hH : Hd ω μ H) {j n : Nat} (hj : Is ω j 1 n) (hdg : decode cc pc = .ok (.getfield 27, 3))
    (kk : W p l e R s m args below meth c H locs cells slots Q (F0 m (pc + 3) ls (.int (μ.1 j 4) :: rest))) : W p l e R s m args below meth c H locs cells slots Q (F0 m pc ls (.ref (wB ω + j) :: rest)) :=
  h_geti C hH hj.1 hj.2.1 (by decide) rfl (show 4 < 5 by decide) rfl rfl wd_239 hdg kk
theorem p_239 (C : Cx ω p s m args c cc nL RX1) (hH : Hd ω μ H) (hS : FS ω s H locs) {j n : Nat} {x : Int32} (hj : Is ω j 1 n) (hdg : decode cc pc = .ok (.putfield 27, 3))
    (kk : ∀ (H1 : Heap) (locs1 : List Loc), Hd ω (upI μ j 4 x) H1 → FS ω s H1 locs1 → W p l e R s m args below meth c H1 locs1 cells slots Q (F0 m (pc + 3) ls rest)) : W p l e R s m args below meth c H locs cells slots Q (F0 m pc ls (.int x :: .ref (wB ω + j) :: rest)) :=
  h_puti (ty := .int) C hH hS hj.1 hj.2.1 (by decide) rfl (show 4 < 5 by decide) rfl rfl wd_239 rfl rfl rfl hdg kk
theorem g_240 (C : Cx ω p s m args c cc nL RX4) (hH : Hd ω μ H) {j n : Nat} (hj : Is ω j 1 n) (hdg : decode cc pc = .ok (.getfield 122, 3))
    (kk : W p l e R s m args below meth c H locs cells slots Q (F0 m (pc + 3) ls (.int (μ.1 j 4) :: rest))) : W p l e R s m args below meth c H locs cells slots Q (F0 m pc ls (.ref (wB ω + j) :: rest)) :=
  h_geti C hH hj.1 hj.2.1 (by decide) rfl (show 4 < 5 by decide) rfl rfl wd_240 hdg kk
theorem p_240 (C : Cx ω p s m args c cc nL RX4) (hH : Hd ω μ H) (hS : FS ω s H locs) {j n : Nat} {x : Int32} (hj : Is ω j 1 n) (hdg : decode cc pc = .ok (.putfield 122, 3))
    (kk : ∀ (H1 : Heap) (locs1 : List Loc), Hd ω (upI μ j 4 x) H1 → FS ω s H1 locs1 → W p l e R s m args below meth c H1 locs1 cells slots Q (F0 m (pc + 3) ls rest)) : W p l e R s m args below meth c H locs cells slots Q (F0 m pc ls (.int x :: .ref (wB ω + j) :: rest)) :=
  h_puti (ty := .int) C hH hS hj.1 hj.2.1 (by decide) rfl (show 4 < 5 by decide) rfl rfl wd_240 rfl rfl rfl hdg kk
theorem g_257 (C : Cx ω p s m args c cc nL RX3) (hH : Hd ω μ H) {j n i : Nat} (hj : Is ω j 3 n) (hi : j + 1 = i) (hdg : decode cc pc = .ok (.getfield 11, 3))
    (kk : W p l e R s m args below meth c H locs cells slots Q (F0 m (pc + 3) ls (.ref (wB ω + i) :: rest))) : W p l e R s m args below meth c H locs cells slots Q (F0 m pc ls (.ref (wB ω + j) :: rest)) :=
  h_getr C hH hj.1 hj.2.1 (by decide) rfl (show 0 < 7 by decide) rfl (by decide) (hj.2.2 _) hi wd_257 hdg kk
theorem g_258 (C : Cx ω p s m args c cc nL RX3) (hH : Hd ω μ H) {j n i : Nat} (hj : Is ω j 3 n) (hi : j + 2 = i) (hdg : decode cc pc = .ok (.getfield 18, 3))
    (kk : W p l e R s m args below meth c H locs cells slots Q (F0 m (pc + 3) ls (.ref (wB ω + i) :: rest))) : W p l e R s m args below meth c H locs cells slots Q (F0 m pc ls (.ref (wB ω + j) :: rest)) :=
  h_getr C hH hj.1 hj.2.1 (by decide) rfl (show 1 < 7 by decide) rfl (by decide) (hj.2.2 _) hi wd_258 hdg kk
theorem g_259 (C : Cx ω p s m args c cc nL RX4) (hH : Hd ω μ H) {j n i : Nat} (hj : Is ω j 3 n) (hi : j + 2 = i) (hdg : decode cc pc = .ok (.getfield 110, 3))
    (kk : W p l e R s m args below meth c H locs cells slots Q (F0 m (pc + 3) ls (.ref (wB ω + i) :: rest))) : W p l e R s m args below meth c H locs cells slots Q (F0 m pc ls (.ref (wB ω + j) :: rest)) :=
  h_getr C hH hj.1 hj.2.1 (by decide) rfl (show 1 < 7 by decide) rfl (by decide) (hj.2.2 _) hi wd_259 hdg kk
theorem g_260 (C : Cx ω p s m args c cc nL RX5) (hH : Hd ω μ H) {j n : Nat} (hj : Is ω j 3 n) (hdg : decode cc pc = .ok (.getfield 18, 3))
    (kk : W p l e R s m args below meth c H locs cells slots Q (F0 m (pc + 3) ls (.int (μ.1 j 2) :: rest))) : W p l e R s m args below meth c H locs cells slots Q (F0 m pc ls (.ref (wB ω + j) :: rest)) :=
  h_geti C hH hj.1 hj.2.1 (by decide) rfl (show 2 < 7 by decide) rfl rfl wd_260 hdg kk
theorem p_260 (C : Cx ω p s m args c cc nL RX5) (hH : Hd ω μ H) (hS : FS ω s H locs) {j n : Nat} {x : Int32} (hj : Is ω j 3 n) (hdg : decode cc pc = .ok (.putfield 18, 3))
    (kk : ∀ (H1 : Heap) (locs1 : List Loc), Hd ω (upI μ j 2 x) H1 → FS ω s H1 locs1 → W p l e R s m args below meth c H1 locs1 cells slots Q (F0 m (pc + 3) ls rest)) : W p l e R s m args below meth c H locs cells slots Q (F0 m pc ls (.int x :: .ref (wB ω + j) :: rest)) :=
  h_puti (ty := .int) C hH hS hj.1 hj.2.1 (by decide) rfl (show 2 < 7 by decide) rfl rfl wd_260 rfl rfl rfl hdg kk
theorem g_261 (C : Cx ω p s m args c cc nL RX3) (hH : Hd ω μ H) {j n : Nat} (hj : Is ω j 3 n) (hdg : decode cc pc = .ok (.getfield 26, 3))
    (kk : W p l e R s m args below meth c H locs cells slots Q (F0 m (pc + 3) ls (.int (μ.1 j 2) :: rest))) : W p l e R s m args below meth c H locs cells slots Q (F0 m pc ls (.ref (wB ω + j) :: rest)) :=
  h_geti C hH hj.1 hj.2.1 (by decide) rfl (show 2 < 7 by decide) rfl rfl wd_261 hdg kk
theorem p_261 (C : Cx ω p s m args c cc nL RX3) (hH : Hd ω μ H) (hS : FS ω s H locs) {j n : Nat} {x : Int32} (hj : Is ω j 3 n) (hdg : decode cc pc = .ok (.putfield 26, 3))
    (kk : ∀ (H1 : Heap) (locs1 : List Loc), Hd ω (upI μ j 2 x) H1 → FS ω s H1 locs1 → W p l e R s m args below meth c H1 locs1 cells slots Q (F0 m (pc + 3) ls rest)) : W p l e R s m args below meth c H locs cells slots Q (F0 m pc ls (.int x :: .ref (wB ω + j) :: rest)) :=
  h_puti (ty := .int) C hH hS hj.1 hj.2.1 (by decide) rfl (show 2 < 7 by decide) rfl rfl wd_261 rfl rfl rfl hdg kk
theorem g_262 (C : Cx ω p s m args c cc nL RX6) (hH : Hd ω μ H) {j n : Nat} (hj : Is ω j 3 n) (hdg : decode cc pc = .ok (.getfield 40, 3))
    (kk : W p l e R s m args below meth c H locs cells slots Q (F0 m (pc + 3) ls (.int (μ.1 j 2) :: rest))) : W p l e R s m args below meth c H locs cells slots Q (F0 m pc ls (.ref (wB ω + j) :: rest)) :=
  h_geti C hH hj.1 hj.2.1 (by decide) rfl (show 2 < 7 by decide) rfl rfl wd_262 hdg kk
theorem p_262 (C : Cx ω p s m args c cc nL RX6) (hH : Hd ω μ H) (hS : FS ω s H locs) {j n : Nat} {x : Int32} (hj : Is ω j 3 n) (hdg : decode cc pc = .ok (.putfield 40, 3))
    (kk : ∀ (H1 : Heap) (locs1 : List Loc), Hd ω (upI μ j 2 x) H1 → FS ω s H1 locs1 → W p l e R s m args below meth c H1 locs1 cells slots Q (F0 m (pc + 3) ls rest)) : W p l e R s m args below meth c H locs cells slots Q (F0 m pc ls (.int x :: .ref (wB ω + j) :: rest)) :=
  h_puti (ty := .int) C hH hS hj.1 hj.2.1 (by decide) rfl (show 2 < 7 by decide) rfl rfl wd_262 rfl rfl rfl hdg kk
theorem g_263 (C : Cx ω p s m args c cc nL RX10) (hH : Hd ω μ H) {j n : Nat} (hj : Is ω j 3 n) (hdg : decode cc pc = .ok (.getfield 27, 3))
    (kk : W p l e R s m args below meth c H locs cells slots Q (F0 m (pc + 3) ls (.int (μ.1 j 2) :: rest))) : W p l e R s m args below meth c H locs cells slots Q (F0 m pc ls (.ref (wB ω + j) :: rest)) :=
  h_geti C hH hj.1 hj.2.1 (by decide) rfl (show 2 < 7 by decide) rfl rfl wd_263 hdg kk
theorem p_263 (C : Cx ω p s m args c cc nL RX10) (hH : Hd ω μ H) (hS : FS ω s H locs) {j n : Nat} {x : Int32} (hj : Is ω j 3 n) (hdg : decode cc pc = .ok (.putfield 27, 3))
    (kk : ∀ (H1 : Heap) (locs1 : List Loc), Hd ω (upI μ j 2 x) H1 → FS ω s H1 locs1 → W p l e R s m args below meth c H1 locs1 cells slots Q (F0 m (pc + 3) ls rest)) : W p l e R s m args below meth c H locs cells slots Q (F0 m pc ls (.int x :: .ref (wB ω + j) :: rest)) :=
  h_puti (ty := .int) C hH hS hj.1 hj.2.1 (by decide) rfl (show 2 < 7 by decide) rfl rfl wd_263 rfl rfl rfl hdg kk
theorem g_264 (C : Cx ω p s m args c cc nL RX4) (hH : Hd ω μ H) {j n : Nat} (hj : Is ω j 3 n) (hdg : decode cc pc = .ok (.getfield 70, 3))
    (kk : W p l e R s m args below meth c H locs cells slots Q (F0 m (pc + 3) ls (.int (μ.1 j 2) :: rest))) : W p l e R s m args below meth c H locs cells slots Q (F0 m pc ls (.ref (wB ω + j) :: rest)) :=
  h_geti C hH hj.1 hj.2.1 (by decide) rfl (show 2 < 7 by decide) rfl rfl wd_264 hdg kk
theorem p_264 (C : Cx ω p s m args c cc nL RX4) (hH : Hd ω μ H) (hS : FS ω s H locs) {j n : Nat} {x : Int32} (hj : Is ω j 3 n) (hdg : decode cc pc = .ok (.putfield 70, 3))
    (kk : ∀ (H1 : Heap) (locs1 : List Loc), Hd ω (upI μ j 2 x) H1 → FS ω s H1 locs1 → W p l e R s m args below meth c H1 locs1 cells slots Q (F0 m (pc + 3) ls rest)) : W p l e R s m args below meth c H locs cells slots Q (F0 m pc ls (.int x :: .ref (wB ω + j) :: rest)) :=
  h_puti (ty := .int) C hH hS hj.1 hj.2.1 (by decide) rfl (show 2 < 7 by decide) rfl rfl wd_264 rfl rfl rfl hdg kk
theorem g_265 (C : Cx ω p s m args c cc nL RX11) (hH : Hd ω μ H) {j n : Nat} (hj : Is ω j 3 n) (hdg : decode cc pc = .ok (.getfield 158, 3))
    (kk : W p l e R s m args below meth c H locs cells slots Q (F0 m (pc + 3) ls (.int (μ.1 j 2) :: rest))) : W p l e R s m args below meth c H locs cells slots Q (F0 m pc ls (.ref (wB ω + j) :: rest)) :=
  h_geti C hH hj.1 hj.2.1 (by decide) rfl (show 2 < 7 by decide) rfl rfl wd_265 hdg kk
theorem p_265 (C : Cx ω p s m args c cc nL RX11) (hH : Hd ω μ H) (hS : FS ω s H locs) {j n : Nat} {x : Int32} (hj : Is ω j 3 n) (hdg : decode cc pc = .ok (.putfield 158, 3))
    (kk : ∀ (H1 : Heap) (locs1 : List Loc), Hd ω (upI μ j 2 x) H1 → FS ω s H1 locs1 → W p l e R s m args below meth c H1 locs1 cells slots Q (F0 m (pc + 3) ls rest)) : W p l e R s m args below meth c H locs cells slots Q (F0 m pc ls (.int x :: .ref (wB ω + j) :: rest)) :=
  h_puti (ty := .int) C hH hS hj.1 hj.2.1 (by decide) rfl (show 2 < 7 by decide) rfl rfl wd_265 rfl rfl rfl hdg kk
theorem g_266 (C : Cx ω p s m args c cc nL RX11) (hH : Hd ω μ H) {j n : Nat} (hj : Is ω j 3 n) (hdg : decode cc pc = .ok (.getfield 34, 3))
    (kk : W p l e R s m args below meth c H locs cells slots Q (F0 m (pc + 3) ls (.int (μ.1 j 3) :: rest))) : W p l e R s m args below meth c H locs cells slots Q (F0 m pc ls (.ref (wB ω + j) :: rest)) :=
  h_geti C hH hj.1 hj.2.1 (by decide) rfl (show 3 < 7 by decide) rfl rfl wd_266 hdg kk
theorem p_266 (C : Cx ω p s m args c cc nL RX11) (hH : Hd ω μ H) (hS : FS ω s H locs) {j n : Nat} {x : Int32} (hj : Is ω j 3 n) (hdg : decode cc pc = .ok (.putfield 34, 3))
    (kk : ∀ (H1 : Heap) (locs1 : List Loc), Hd ω (upI μ j 3 x) H1 → FS ω s H1 locs1 → W p l e R s m args below meth c H1 locs1 cells slots Q (F0 m (pc + 3) ls rest)) : W p l e R s m args below meth c H locs cells slots Q (F0 m pc ls (.int x :: .ref (wB ω + j) :: rest)) :=
  h_puti (ty := .int) C hH hS hj.1 hj.2.1 (by decide) rfl (show 3 < 7 by decide) rfl rfl wd_266 rfl rfl rfl hdg kk
theorem g_267 (C : Cx ω p s m args c cc nL RX3) (hH : Hd ω μ H) {j n : Nat} (hj : Is ω j 3 n) (hdg : decode cc pc = .ok (.getfield 30, 3))
    (kk : W p l e R s m args below meth c H locs cells slots Q (F0 m (pc + 3) ls (.int (μ.1 j 3) :: rest))) : W p l e R s m args below meth c H locs cells slots Q (F0 m pc ls (.ref (wB ω + j) :: rest)) :=
  h_geti C hH hj.1 hj.2.1 (by decide) rfl (show 3 < 7 by decide) rfl rfl wd_267 hdg kk
theorem p_267 (C : Cx ω p s m args c cc nL RX3) (hH : Hd ω μ H) (hS : FS ω s H locs) {j n : Nat} {x : Int32} (hj : Is ω j 3 n) (hdg : decode cc pc = .ok (.putfield 30, 3))
    (kk : ∀ (H1 : Heap) (locs1 : List Loc), Hd ω (upI μ j 3 x) H1 → FS ω s H1 locs1 → W p l e R s m args below meth c H1 locs1 cells slots Q (F0 m (pc + 3) ls rest)) : W p l e R s m args below meth c H locs cells slots Q (F0 m pc ls (.int x :: .ref (wB ω + j) :: rest)) :=
  h_puti (ty := .int) C hH hS hj.1 hj.2.1 (by decide) rfl (show 3 < 7 by decide) rfl rfl wd_267 rfl rfl rfl hdg kk
theorem g_268 (C : Cx ω p s m args c cc nL RX4) (hH : Hd ω μ H) {j n : Nat} (hj : Is ω j 3 n) (hdg : decode cc pc = .ok (.getfield 92, 3))
    (kk : W p l e R s m args below meth c H locs cells slots Q (F0 m (pc + 3) ls (.int (μ.1 j 3) :: rest))) : W p l e R s m args below meth c H locs cells slots Q (F0 m pc ls (.ref (wB ω + j) :: rest)) :=
  h_geti C hH hj.1 hj.2.1 (by decide) rfl (show 3 < 7 by decide) rfl rfl wd_268 hdg kk
theorem p_268 (C : Cx ω p s m args c cc nL RX4) (hH : Hd ω μ H) (hS : FS ω s H locs) {j n : Nat} {x : Int32} (hj : Is ω j 3 n) (hdg : decode cc pc = .ok (.putfield 92, 3))
    (kk : ∀ (H1 : Heap) (locs1 : List Loc), Hd ω (upI μ j 3 x) H1 → FS ω s H1 locs1 → W p l e R s m args below meth c H1 locs1 cells slots Q (F0 m (pc + 3) ls rest)) : W p l e R s m args below meth c H locs cells slots Q (F0 m pc ls (.int x :: .ref (wB ω + j) :: rest)) :=
  h_puti (ty := .int) C hH hS hj.1 hj.2.1 (by decide) rfl (show 3 < 7 by decide) rfl rfl wd_268 rfl rfl rfl hdg kk
theorem g_269 (C : Cx ω p s m args c cc nL RX5) (hH : Hd ω μ H) {j n : Nat} (hj : Is ω j 3 n) (hdg : decode cc pc = .ok (.getfield 30, 3))
    (kk : W p l e R s m args below meth c H locs cells slots Q (F0 m (pc + 3) ls (.int (μ.1 j 4) :: rest))) : W p l e R s m args below meth c H locs cells slots Q (F0 m pc ls (.ref (wB ω + j) :: rest)) :=
  h_geti C hH hj.1 hj.2.1 (by decide) rfl (show 4 < 7 by decide) rfl rfl wd_269 hdg kk
theorem p_269 (C : Cx ω p s m args c cc nL RX5) (hH : Hd ω μ H) (hS : FS ω s H locs) {j n : Nat} {x : Int32} (hj : Is ω j 3 n) (hdg : decode cc pc = .ok (.putfield 30, 3))
    (kk : ∀ (H1 : Heap) (locs1 : List Loc), Hd ω (upI μ j 4 x) H1 → FS ω s H1 locs1 → W p l e R s m args below meth c H1 locs1 cells slots Q (F0 m (pc + 3) ls rest)) : W p l e R s m args below meth c H locs cells slots Q (F0 m pc ls (.int x :: .ref (wB ω + j) :: rest)) :=
  h_puti (ty := .int) C hH hS hj.1 hj.2.1 (by decide) rfl (show 4 < 7 by decide) rfl rfl wd_269 rfl rfl rfl hdg kk
theorem g_270 (C : Cx ω p s m args c cc nL RX3) (hH : Hd ω μ H) {j n : Nat} (hj : Is ω j 3 n) (hdg : decode cc pc = .ok (.getfield 33, 3))
    (kk : W p l e R s m args below meth c H locs cells slots Q (F0 m (pc + 3) ls (.int (μ.1 j 4) :: rest))) : W p l e R s m args below meth c H locs cells slots Q (F0 m pc ls (.ref (wB ω + j) :: rest)) :=
  h_geti C hH hj.1 hj.2.1 (by decide) rfl (show 4 < 7 by decide) rfl rfl wd_270 hdg kk
theorem p_270 (C : Cx ω p s m args c cc nL RX3) (hH : Hd ω μ H) (hS : FS ω s H locs) {j n : Nat} {x : Int32} (hj : Is ω j 3 n) (hdg : decode cc pc = .ok (.putfield 33, 3))
    (kk : ∀ (H1 : Heap) (locs1 : List Loc), Hd ω (upI μ j 4 x) H1 → FS ω s H1 locs1 → W p l e R s m args below meth c H1 locs1 cells slots Q (F0 m (pc + 3) ls rest)) : W p l e R s m args below meth c H locs cells slots Q (F0 m pc ls (.int x :: .ref (wB ω + j) :: rest)) :=
  h_puti (ty := .int) C hH hS hj.1 hj.2.1 (by decide) rfl (show 4 < 7 by decide) rfl rfl wd_270 rfl rfl rfl hdg kk
theorem g_271 (C : Cx ω p s m args c cc nL RX4) (hH : Hd ω μ H) {j n : Nat} (hj : Is ω j 3 n) (hdg : decode cc pc = .ok (.getfield 95, 3))
    (kk : W p l e R s m args below meth c H locs cells slots Q (F0 m (pc + 3) ls (.int (μ.1 j 4) :: rest))) : W p l e R s m args below meth c H locs cells slots Q (F0 m pc ls (.ref (wB ω + j) :: rest)) :=
  h_geti C hH hj.1 hj.2.1 (by decide) rfl (show 4 < 7 by decide) rfl rfl wd_271 hdg kk
theorem p_271 (C : Cx ω p s m args c cc nL RX4) (hH : Hd ω μ H) (hS : FS ω s H locs) {j n : Nat} {x : Int32} (hj : Is ω j 3 n) (hdg : decode cc pc = .ok (.putfield 95, 3))
    (kk : ∀ (H1 : Heap) (locs1 : List Loc), Hd ω (upI μ j 4 x) H1 → FS ω s H1 locs1 → W p l e R s m args below meth c H1 locs1 cells slots Q (F0 m (pc + 3) ls rest)) : W p l e R s m args below meth c H locs cells slots Q (F0 m pc ls (.int x :: .ref (wB ω + j) :: rest)) :=
  h_puti (ty := .int) C hH hS hj.1 hj.2.1 (by decide) rfl (show 4 < 7 by decide) rfl rfl wd_271 rfl rfl rfl hdg kk
theorem g_272 (C : Cx ω p s m args c cc nL RX11) (hH : Hd ω μ H) {j n : Nat} (hj : Is ω j 3 n) (hdg : decode cc pc = .ok (.getfield 194, 3))
    (kk : W p l e R s m args below meth c H locs cells slots Q (F0 m (pc + 3) ls (.int (μ.1 j 4) :: rest))) : W p l e R s m args below meth c H locs cells slots Q (F0 m pc ls (.ref (wB ω + j) :: rest)) :=
  h_geti C hH hj.1 hj.2.1 (by decide) rfl (show 4 < 7 by decide) rfl rfl wd_272 hdg kk
theorem p_272 (C : Cx ω p s m args c cc nL RX11) (hH : Hd ω μ H) (hS : FS ω s H locs) {j n : Nat} {x : Int32} (hj : Is ω j 3 n) (hdg : decode cc pc = .ok (.putfield 194, 3))
    (kk : ∀ (H1 : Heap) (locs1 : List Loc), Hd ω (upI μ j 4 x) H1 → FS ω s H1 locs1 → W p l e R s m args below meth c H1 locs1 cells slots Q (F0 m (pc + 3) ls rest)) : W p l e R s m args below meth c H locs cells slots Q (F0 m pc ls (.int x :: .ref (wB ω + j) :: rest)) :=
  h_puti (ty := .int) C hH hS hj.1 hj.2.1 (by decide) rfl (show 4 < 7 by decide) rfl rfl wd_272 rfl rfl rfl hdg kk
theorem g_273 (C : Cx ω p s m args c cc nL RX3) (hH : Hd ω μ H) {j n : Nat} (hj : Is ω j 3 n) (hdg : decode cc pc = .ok (.getfield 36, 3))
    (kk : W p l e R s m args below meth c H locs cells slots Q (F0 m (pc + 3) ls (.int (μ.1 j 5) :: rest))) : W p l e R s m args below meth c H locs cells slots Q (F0 m pc ls (.ref (wB ω + j) :: rest)) :=
  h_geti C hH hj.1 hj.2.1 (by decide) rfl (show 5 < 7 by decide) rfl rfl wd_273 hdg kk
theorem p_273 (C : Cx ω p s m args c cc nL RX3) (hH : Hd ω μ H) (hS : FS ω s H locs) {j n : Nat} {x : Int32} (hj : Is ω j 3 n) (hdg : decode cc pc = .ok (.putfield 36, 3))
    (kk : ∀ (H1 : Heap) (locs1 : List Loc), Hd ω (upI μ j 5 x) H1 → FS ω s H1 locs1 → W p l e R s m args below meth c H1 locs1 cells slots Q (F0 m (pc + 3) ls rest)) : W p l e R s m args below meth c H locs cells slots Q (F0 m pc ls (.int x :: .ref (wB ω + j) :: rest)) :=
  h_puti (ty := .int) C hH hS hj.1 hj.2.1 (by decide) rfl (show 5 < 7 by decide) rfl rfl wd_273 rfl rfl rfl hdg kk
theorem g_274 (C : Cx ω p s m args c cc nL RX4) (hH : Hd ω μ H) {j n : Nat} (hj : Is ω j 3 n) (hdg : decode cc pc = .ok (.getfield 98, 3))
    (kk : W p l e R s m args below meth c H locs cells slots Q (F0 m (pc + 3) ls (.int (μ.1 j 5) :: rest))) : W p l e R s m args below meth c H locs cells slots Q (F0 m pc ls (.ref (wB ω + j) :: rest)) :=
  h_geti C hH hj.1 hj.2.1 (by decide) rfl (show 5 < 7 by decide) rfl rfl wd_274 hdg kk
theorem p_274 (C : Cx ω p s m args c cc nL RX4) (hH : Hd ω μ H) (hS : FS ω s H locs) {j n : Nat} {x : Int32} (hj : Is ω j 3 n) (hdg : decode cc pc = .ok (.putfield 98, 3))
    (kk : ∀ (H1 : Heap) (locs1 : List Loc), Hd ω (upI μ j 5 x) H1 → FS ω s H1 locs1 → W p l e R s m args below meth c H1 locs1 cells slots Q (F0 m (pc + 3) ls rest)) : W p l e R s m args below meth c H locs cells slots Q (F0 m pc ls (.int x :: .ref (wB ω + j) :: rest)) :=
  h_puti (ty := .int) C hH hS hj.1 hj.2.1 (by decide) rfl (show 5 < 7 by decide) rfl rfl wd_274 rfl rfl rfl hdg kk
theorem g_275 (C : Cx ω p s m args c cc nL RX3) (hH : Hd ω μ H) {j n : Nat} (hj : Is ω j 3 n) (hdg : decode cc pc = .ok (.getfield 39, 3))
    (kk : W p l e R s m args below meth c H locs cells slots Q (F0 m (pc + 3) ls (.int (μ.1 j 6) :: rest))) : W p l e R s m args below meth c H locs cells slots Q (F0 m pc ls (.ref (wB ω + j) :: rest)) :=
  h_geti C hH hj.1 hj.2.1 (by decide) rfl (show 6 < 7 by decide) rfl rfl wd_275 hdg kk
theorem p_275 (C : Cx ω p s m args c cc nL RX3) (hH : Hd ω μ H) (hS : FS ω s H locs) {j n : Nat} {x : Int32} (hj : Is ω j 3 n) (hdg : decode cc pc = .ok (.putfield 39, 3))
    (kk : ∀ (H1 : Heap) (locs1 : List Loc), Hd ω (upI μ j 6 x) H1 → FS ω s H1 locs1 → W p l e R s m args below meth c H1 locs1 cells slots Q (F0 m (pc + 3) ls rest)) : W p l e R s m args below meth c H locs cells slots Q (F0 m pc ls (.int x :: .ref (wB ω + j) :: rest)) :=
  h_puti (ty := .int) C hH hS hj.1 hj.2.1 (by decide) rfl (show 6 < 7 by decide) rfl rfl wd_275 rfl rfl rfl hdg kk
theorem g_276 (C : Cx ω p s m args c cc nL RX4) (hH : Hd ω μ H) {j n : Nat} (hj : Is ω j 3 n) (hdg : decode cc pc = .ok (.getfield 101, 3))
    (kk : W p l e R s m args below meth c H locs cells slots Q (F0 m (pc + 3) ls (.int (μ.1 j 6) :: rest))) : W p l e R s m args below meth c H locs cells slots Q (F0 m pc ls (.ref (wB ω + j) :: rest)) :=
  h_geti C hH hj.1 hj.2.1 (by decide) rfl (show 6 < 7 by decide) rfl rfl wd_276 hdg kk
theorem p_276 (C : Cx ω p s m args c cc nL RX4) (hH : Hd ω μ H) (hS : FS ω s H locs) {j n : Nat} {x : Int32} (hj : Is ω j 3 n) (hdg : decode cc pc = .ok (.putfield 101, 3))
    (kk : ∀ (H1 : Heap) (locs1 : List Loc), Hd ω (upI μ j 6 x) H1 → FS ω s H1 locs1 → W p l e R s m args below meth c H1 locs1 cells slots Q (F0 m (pc + 3) ls rest)) : W p l e R s m args below meth c H locs cells slots Q (F0 m pc ls (.int x :: .ref (wB ω + j) :: rest)) :=
  h_puti (ty := .int) C hH hS hj.1 hj.2.1 (by decide) rfl (show 6 < 7 by decide) rfl rfl wd_276 rfl rfl rfl hdg kk
theorem g_277 (C : Cx ω p s m args c cc nL RX11) (hH : Hd ω μ H) {j n : Nat} (hj : Is ω j 3 n) (hdg : decode cc pc = .ok (.getfield 178, 3))
    (kk : W p l e R s m args below meth c H locs cells slots Q (F0 m (pc + 3) ls (.int (μ.1 j 6) :: rest))) : W p l e R s m args below meth c H locs cells slots Q (F0 m pc ls (.ref (wB ω + j) :: rest)) :=
  h_geti C hH hj.1 hj.2.1 (by decide) rfl (show 6 < 7 by decide) rfl rfl wd_277 hdg kk
theorem p_277 (C : Cx ω p s m args c cc nL RX11) (hH : Hd ω μ H) (hS : FS ω s H locs) {j n : Nat} {x : Int32} (hj : Is ω j 3 n) (hdg : decode cc pc = .ok (.putfield 178, 3))
    (kk : ∀ (H1 : Heap) (locs1 : List Loc), Hd ω (upI μ j 6 x) H1 → FS ω s H1 locs1 → W p l e R s m args below meth c H1 locs1 cells slots Q (F0 m (pc + 3) ls rest)) : W p l e R s m args below meth c H locs cells slots Q (F0 m pc ls (.int x :: .ref (wB ω + j) :: rest)) :=
  h_puti (ty := .int) C hH hS hj.1 hj.2.1 (by decide) rfl (show 6 < 7 by decide) rfl rfl wd_277 rfl rfl rfl hdg kk
theorem g_293 (C : Cx ω p s m args c cc nL RX4) (hH : Hd ω μ H) {j n i : Nat} (hj : Is ω j 4 n) (hi : j + 1 = i) (hdg : decode cc pc = .ok (.getfield 12, 3))
    (kk : W p l e R s m args below meth c H locs cells slots Q (F0 m (pc + 3) ls (.ref (wB ω + i) :: rest))) : W p l e R s m args below meth c H locs cells slots Q (F0 m pc ls (.ref (wB ω + j) :: rest)) :=
  h_getr C hH hj.1 hj.2.1 (by decide) rfl (show 0 < 6 by decide) rfl (by decide) (hj.2.2 _) hi wd_293 hdg kk
theorem g_294 (C : Cx ω p s m args c cc nL RX4) (hH : Hd ω μ H) {j n i : Nat} (hj : Is ω j 4 n) (hi : j + 6 = i) (hdg : decode cc pc = .ok (.getfield 21, 3))
    (kk : W p l e R s m args below meth c H locs cells slots Q (F0 m (pc + 3) ls (.ref (wB ω + i) :: rest))) : W p l e R s m args below meth c H locs cells slots Q (F0 m pc ls (.ref (wB ω + j) :: rest)) :=
  h_getr C hH hj.1 hj.2.1 (by decide) rfl (show 1 < 6 by decide) rfl (by decide) (hj.2.2 _) hi wd_294 hdg kk
theorem g_295 (C : Cx ω p s m args c cc nL RX11) (hH : Hd ω μ H) {j n i : Nat} (hj : Is ω j 4 n) (hi : j + 6 = i) (hdg : decode cc pc = .ok (.getfield 113, 3))
    (kk : W p l e R s m args below meth c H locs cells slots Q (F0 m (pc + 3) ls (.ref (wB ω + i) :: rest))) : W p l e R s m args below meth c H locs cells slots Q (F0 m pc ls (.ref (wB ω + j) :: rest)) :=
  h_getr C hH hj.1 hj.2.1 (by decide) rfl (show 1 < 6 by decide) rfl (by decide) (hj.2.2 _) hi wd_295 hdg kk
theorem g_296 (C : Cx ω p s m args c cc nL RX4) (hH : Hd ω μ H) {j n i : Nat} (hj : Is ω j 4 n) (hi : j + 13 = i) (hdg : decode cc pc = .ok (.getfield 25, 3))
    (kk : W p l e R s m args below meth c H locs cells slots Q (F0 m (pc + 3) ls (.ref (wB ω + i) :: rest))) : W p l e R s m args below meth c H locs cells slots Q (F0 m pc ls (.ref (wB ω + j) :: rest)) :=
  h_getr C hH hj.1 hj.2.1 (by decide) rfl (show 5 < 6 by decide) rfl (by decide) (hj.2.2 _) hi wd_296 hdg kk
theorem g_297 (C : Cx ω p s m args c cc nL RX4) (hH : Hd ω μ H) {j n : Nat} (hj : Is ω j 4 n) (hdg : decode cc pc = .ok (.getfield 36, 3))
    (kk : W p l e R s m args below meth c H locs cells slots Q (F0 m (pc + 3) ls (.int (μ.1 j 2) :: rest))) : W p l e R s m args below meth c H locs cells slots Q (F0 m pc ls (.ref (wB ω + j) :: rest)) :=
  h_geti C hH hj.1 hj.2.1 (by decide) rfl (show 2 < 6 by decide) rfl rfl wd_297 hdg kk
theorem p_297 (C : Cx ω p s m args c cc nL RX4) (hH : Hd ω μ H) (hS : FS ω s H locs) {j n : Nat} {x : Int32} (hj : Is ω j 4 n) (hdg : decode cc pc = .ok (.putfield 36, 3))
    (kk : ∀ (H1 : Heap) (locs1 : List Loc), Hd ω (upI μ j 2 x) H1 → FS ω s H1 locs1 → W p l e R s m args below meth c H1 locs1 cells slots Q (F0 m (pc + 3) ls rest)) : W p l e R s m args below meth c H locs cells slots Q (F0 m pc ls (.int x :: .ref (wB ω + j) :: rest)) :=
  h_puti (ty := .int) C hH hS hj.1 hj.2.1 (by decide) rfl (show 2 < 6 by decide) rfl rfl wd_297 rfl rfl rfl hdg kk
theorem g_298 (C : Cx ω p s m args c cc nL RX4) (hH : Hd ω μ H) {j n : Nat} (hj : Is ω j 4 n) (hdg : decode cc pc = .ok (.getfield 40, 3))
    (kk : W p l e R s m args below meth c H locs cells slots Q (F0 m (pc + 3) ls (.int (μ.1 j 3) :: rest))) : W p l e R s m args below meth c H locs cells slots Q (F0 m pc ls (.ref (wB ω + j) :: rest)) :=
  h_geti C hH hj.1 hj.2.1 (by decide) rfl (show 3 < 6 by decide) rfl rfl wd_298 hdg kk
theorem p_298 (C : Cx ω p s m args c cc nL RX4) (hH : Hd ω μ H) (hS : FS ω s H locs) {j n : Nat} {x : Int32} (hj : Is ω j 4 n) (hdg : decode cc pc = .ok (.putfield 40, 3))
    (kk : ∀ (H1 : Heap) (locs1 : List Loc), Hd ω (upI μ j 3 x) H1 → FS ω s H1 locs1 → W p l e R s m args below meth c H1 locs1 cells slots Q (F0 m (pc + 3) ls rest)) : W p l e R s m args below meth c H locs cells slots Q (F0 m pc ls (.int x :: .ref (wB ω + j) :: rest)) :=
  h_puti (ty := .int) C hH hS hj.1 hj.2.1 (by decide) rfl (show 3 < 6 by decide) rfl rfl wd_298 rfl rfl rfl hdg kk
theorem g_299 (C : Cx ω p s m args c cc nL RX4) (hH : Hd ω μ H) {j n : Nat} (hj : Is ω j 4 n) (hdg : decode cc pc = .ok (.getfield 43, 3))
    (kk : W p l e R s m args below meth c H locs cells slots Q (F0 m (pc + 3) ls (.int (μ.1 j 4) :: rest))) : W p l e R s m args below meth c H locs cells slots Q (F0 m pc ls (.ref (wB ω + j) :: rest)) :=
  h_geti C hH hj.1 hj.2.1 (by decide) rfl (show 4 < 6 by decide) rfl rfl wd_299 hdg kk
theorem p_299 (C : Cx ω p s m args c cc nL RX4) (hH : Hd ω μ H) (hS : FS ω s H locs) {j n : Nat} {x : Int32} (hj : Is ω j 4 n) (hdg : decode cc pc = .ok (.putfield 43, 3))
    (kk : ∀ (H1 : Heap) (locs1 : List Loc), Hd ω (upI μ j 4 x) H1 → FS ω s H1 locs1 → W p l e R s m args below meth c H1 locs1 cells slots Q (F0 m (pc + 3) ls rest)) : W p l e R s m args below meth c H locs cells slots Q (F0 m pc ls (.int x :: .ref (wB ω + j) :: rest)) :=
  h_puti (ty := .int) C hH hS hj.1 hj.2.1 (by decide) rfl (show 4 < 6 by decide) rfl rfl wd_299 rfl rfl rfl hdg kk
theorem g_300 (C : Cx ω p s m args c cc nL RX11) (hH : Hd ω μ H) {j n : Nat} (hj : Is ω j 4 n) (hdg : decode cc pc = .ok (.getfield 112, 3))
    (kk : W p l e R s m args below meth c H locs cells slots Q (F0 m (pc + 3) ls (.int (μ.1 j 4) :: rest))) : W p l e R s m args below meth c H locs cells slots Q (F0 m pc ls (.ref (wB ω + j) :: rest)) :=
  h_geti C hH hj.1 hj.2.1 (by decide) rfl (show 4 < 6 by decide) rfl rfl wd_300 hdg kk
theorem p_300 (C : Cx ω p s m args c cc nL RX11) (hH : Hd ω μ H) (hS : FS ω s H locs) {j n : Nat} {x : Int32} (hj : Is ω j 4 n) (hdg : decode cc pc = .ok (.putfield 112, 3))
    (kk : ∀ (H1 : Heap) (locs1 : List Loc), Hd ω (upI μ j 4 x) H1 → FS ω s H1 locs1 → W p l e R s m args below meth c H1 locs1 cells slots Q (F0 m (pc + 3) ls rest)) : W p l e R s m args below meth c H locs cells slots Q (F0 m pc ls (.int x :: .ref (wB ω + j) :: rest)) :=
  h_puti (ty := .int) C hH hS hj.1 hj.2.1 (by decide) rfl (show 4 < 6 by decide) rfl rfl wd_300 rfl rfl rfl hdg kk
theorem g_322 (C : Cx ω p s m args c cc nL RX7) (hH : Hd ω μ H) {j n i : Nat} (hj : Is ω j 7 n) (hi : j + 1 = i) (hdg : decode cc pc = .ok (.getfield 11, 3))
    (kk : W p l e R s m args below meth c H locs cells slots Q (F0 m (pc + 3) ls (.ref (wB ω + i) :: rest))) : W p l e R s m args below meth c H locs cells slots Q (F0 m pc ls (.ref (wB ω + j) :: rest)) :=
  h_getr C hH hj.1 hj.2.1 (by decide) rfl (show 0 < 5 by decide) rfl (by decide) (hj.2.2 _) hi wd_322 hdg kk
theorem g_323 (C : Cx ω p s m args c cc nL RX7) (hH : Hd ω μ H) {j n : Nat} (hj : Is ω j 7 n) (hdg : decode cc pc = .ok (.getfield 21, 3))
    (kk : W p l e R s m args below meth c H locs cells slots Q (F0 m (pc + 3) ls (.int (μ.1 j 1) :: rest))) : W p l e R s m args below meth c H locs cells slots Q (F0 m pc ls (.ref (wB ω + j) :: rest)) :=
  h_geti C hH hj.1 hj.2.1 (by decide) rfl (show 1 < 5 by decide) rfl rfl wd_323 hdg kk
theorem p_323 (C : Cx ω p s m args c cc nL RX7) (hH : Hd ω μ H) (hS : FS ω s H locs) {j n : Nat} {x : Int32} (hj : Is ω j 7 n) (hdg : decode cc pc = .ok (.putfield 21, 3))
    (kk : ∀ (H1 : Heap) (locs1 : List Loc), Hd ω (upI μ j 1 x) H1 → FS ω s H1 locs1 → W p l e R s m args below meth c H1 locs1 cells slots Q (F0 m (pc + 3) ls rest)) : W p l e R s m args below meth c H locs cells slots Q (F0 m pc ls (.int x :: .ref (wB ω + j) :: rest)) :=
  h_puti (ty := .int) C hH hS hj.1 hj.2.1 (by decide) rfl (show 1 < 5 by decide) rfl rfl wd_323 rfl rfl rfl hdg kk
theorem g_324 (C : Cx ω p s m args c cc nL RX3) (hH : Hd ω μ H) {j n : Nat} (hj : Is ω j 7 n) (hdg : decode cc pc = .ok (.getfield 62, 3))
    (kk : W p l e R s m args below meth c H locs cells slots Q (F0 m (pc + 3) ls (.int (μ.1 j 1) :: rest))) : W p l e R s m args below meth c H locs cells slots Q (F0 m pc ls (.ref (wB ω + j) :: rest)) :=
  h_geti C hH hj.1 hj.2.1 (by decide) rfl (show 1 < 5 by decide) rfl rfl wd_324 hdg kk
theorem p_324 (C : Cx ω p s m args c cc nL RX3) (hH : Hd ω μ H) (hS : FS ω s H locs) {j n : Nat} {x : Int32} (hj : Is ω j 7 n) (hdg : decode cc pc = .ok (.putfield 62, 3))
    (kk : ∀ (H1 : Heap) (locs1 : List Loc), Hd ω (upI μ j 1 x) H1 → FS ω s H1 locs1 → W p l e R s m args below meth c H1 locs1 cells slots Q (F0 m (pc + 3) ls rest)) : W p l e R s m args below meth c H locs cells slots Q (F0 m pc ls (.int x :: .ref (wB ω + j) :: rest)) :=
  h_puti (ty := .int) C hH hS hj.1 hj.2.1 (by decide) rfl (show 1 < 5 by decide) rfl rfl wd_324 rfl rfl rfl hdg kk
theorem g_325 (C : Cx ω p s m args c cc nL RX6) (hH : Hd ω μ H) {j n : Nat} (hj : Is ω j 7 n) (hdg : decode cc pc = .ok (.getfield 64, 3))
    (kk : W p l e R s m args below meth c H locs cells slots Q (F0 m (pc + 3) ls (.int (μ.1 j 1) :: rest))) : W p l e R s m args below meth c H locs cells slots Q (F0 m pc ls (.ref (wB ω + j) :: rest)) :=
  h_geti C hH hj.1 hj.2.1 (by decide) rfl (show 1 < 5 by decide) rfl rfl wd_325 hdg kk
theorem p_325 (C : Cx ω p s m args c cc nL RX6) (hH : Hd ω μ H) (hS : FS ω s H locs) {j n : Nat} {x : Int32} (hj : Is ω j 7 n) (hdg : decode cc pc = .ok (.putfield 64, 3))
    (kk : ∀ (H1 : Heap) (locs1 : List Loc), Hd ω (upI μ j 1 x) H1 → FS ω s H1 locs1 → W p l e R s m args below meth c H1 locs1 cells slots Q (F0 m (pc + 3) ls rest)) : W p l e R s m args below meth c H locs cells slots Q (F0 m pc ls (.int x :: .ref (wB ω + j) :: rest)) :=
  h_puti (ty := .int) C hH hS hj.1 hj.2.1 (by decide) rfl (show 1 < 5 by decide) rfl rfl wd_325 rfl rfl rfl hdg kk
theorem g_326 (C : Cx ω p s m args c cc nL RX1) (hH : Hd ω μ H) {j n : Nat} (hj : Is ω j 7 n) (hdg : decode cc pc = .ok (.getfield 47, 3))
    (kk : W p l e R s m args below meth c H locs cells slots Q (F0 m (pc + 3) ls (.int (μ.1 j 1) :: rest))) : W p l e R s m args below meth c H locs cells slots Q (F0 m pc ls (.ref (wB ω + j) :: rest)) :=
  h_geti C hH hj.1 hj.2.1 (by decide) rfl (show 1 < 5 by decide) rfl rfl wd_326 hdg kk
theorem p_326 (C : Cx ω p s m args c cc nL RX1) (hH : Hd ω μ H) (hS : FS ω s H locs) {j n : Nat} {x : Int32} (hj : Is ω j 7 n) (hdg : decode cc pc = .ok (.putfield 47, 3))
    (kk : ∀ (H1 : Heap) (locs1 : List Loc), Hd ω (upI μ j 1 x) H1 → FS ω s H1 locs1 → W p l e R s m args below meth c H1 locs1 cells slots Q (F0 m (pc + 3) ls rest)) : W p l e R s m args below meth c H locs cells slots Q (F0 m pc ls (.int x :: .ref (wB ω + j) :: rest)) :=
  h_puti (ty := .int) C hH hS hj.1 hj.2.1 (by decide) rfl (show 1 < 5 by decide) rfl rfl wd_326 rfl rfl rfl hdg kk
theorem g_327 (C : Cx ω p s m args c cc nL RX11) (hH : Hd ω μ H) {j n : Nat} (hj : Is ω j 7 n) (hdg : decode cc pc = .ok (.getfield 161, 3))
    (kk : W p l e R s m args below meth c H locs cells slots Q (F0 m (pc + 3) ls (.int (μ.1 j 1) :: rest))) : W p l e R s m args below meth c H locs cells slots Q (F0 m pc ls (.ref (wB ω + j) :: rest)) :=
  h_geti C hH hj.1 hj.2.1 (by decide) rfl (show 1 < 5 by decide) rfl rfl wd_327 hdg kk
theorem p_327 (C : Cx ω p s m args c cc nL RX11) (hH : Hd ω μ H) (hS : FS ω s H locs) {j n : Nat} {x : Int32} (hj : Is ω j 7 n) (hdg : decode cc pc = .ok (.putfield 161, 3))
    (kk : ∀ (H1 : Heap) (locs1 : List Loc), Hd ω (upI μ j 1 x) H1 → FS ω s H1 locs1 → W p l e R s m args below meth c H1 locs1 cells slots Q (F0 m (pc + 3) ls rest)) : W p l e R s m args below meth c H locs cells slots Q (F0 m pc ls (.int x :: .ref (wB ω + j) :: rest)) :=
  h_puti (ty := .int) C hH hS hj.1 hj.2.1 (by decide) rfl (show 1 < 5 by decide) rfl rfl wd_327 rfl rfl rfl hdg kk
theorem g_328 (C : Cx ω p s m args c cc nL RX11) (hH : Hd ω μ H) {j n : Nat} (hj : Is ω j 7 n) (hdg : decode cc pc = .ok (.getfield 38, 3))
    (kk : W p l e R s m args below meth c H locs cells slots Q (F0 m (pc + 3) ls (.int (μ.1 j 2) :: rest))) : W p l e R s m args below meth c H locs cells slots Q (F0 m pc ls (.ref (wB ω + j) :: rest)) :=
  h_geti C hH hj.1 hj.2.1 (by decide) rfl (show 2 < 5 by decide) rfl rfl wd_328 hdg kk
theorem p_328 (C : Cx ω p s m args c cc nL RX11) (hH : Hd ω μ H) (hS : FS ω s H locs) {j n : Nat} {x : Int32} (hj : Is ω j 7 n) (hdg : decode cc pc = .ok (.putfield 38, 3))
    (kk : ∀ (H1 : Heap) (locs1 : List Loc), Hd ω (upI μ j 2 x) H1 → FS ω s H1 locs1 → W p l e R s m args below meth c H1 locs1 cells slots Q (F0 m (pc + 3) ls rest)) : W p l e R s m args below meth c H locs cells slots Q (F0 m pc ls (.int x :: .ref (wB ω + j) :: rest)) :=
  h_puti (ty := .int) C hH hS hj.1 hj.2.1 (by decide) rfl (show 2 < 5 by decide) rfl rfl wd_328 rfl rfl rfl hdg kk
theorem g_329 (C : Cx ω p s m args c cc nL RX7) (hH : Hd ω μ H) {j n : Nat} (hj : Is ω j 7 n) (hdg : decode cc pc = .ok (.getfield 25, 3))
    (kk : W p l e R s m args below meth c H locs cells slots Q (F0 m (pc + 3) ls (.int (μ.1 j 2) :: rest))) : W p l e R s m args below meth c H locs cells slots Q (F0 m pc ls (.ref (wB ω + j) :: rest)) :=
  h_geti C hH hj.1 hj.2.1 (by decide) rfl (show 2 < 5 by decide) rfl rfl wd_329 hdg kk
theorem p_329 (C : Cx ω p s m args c cc nL RX7) (hH : Hd ω μ H) (hS : FS ω s H locs) {j n : Nat} {x : Int32} (hj : Is ω j 7 n) (hdg : decode cc pc = .ok (.putfield 25, 3))
    (kk : ∀ (H1 : Heap) (locs1 : List Loc), Hd ω (upI μ j 2 x) H1 → FS ω s H1 locs1 → W p l e R s m args below meth c H1 locs1 cells slots Q (F0 m (pc + 3) ls rest)) : W p l e R s m args below meth c H locs cells slots Q (F0 m pc ls (.int x :: .ref (wB ω + j) :: rest)) :=
  h_puti (ty := .int) C hH hS hj.1 hj.2.1 (by decide) rfl (show 2 < 5 by decide) rfl rfl wd_329 rfl rfl rfl hdg kk
theorem g_330 (C : Cx ω p s m args c cc nL RX3) (hH : Hd ω μ H) {j n : Nat} (hj : Is ω j 7 n) (hdg : decode cc pc = .ok (.getfield 65, 3))
    (kk : W p l e R s m args below meth c H locs cells slots Q (F0 m (pc + 3) ls (.int (μ.1 j 2) :: rest))) : W p l e R s m args below meth c H locs cells slots Q (F0 m pc ls (.ref (wB ω + j) :: rest)) :=
  h_geti C hH hj.1 hj.2.1 (by decide) rfl (show 2 < 5 by decide) rfl rfl wd_330 hdg kk
theorem p_330 (C : Cx ω p s m args c cc nL RX3) (hH : Hd ω μ H) (hS : FS ω s H locs) {j n : Nat} {x : Int32} (hj : Is ω j 7 n) (hdg : decode cc pc = .ok (.putfield 65, 3))
    (kk : ∀ (H1 : Heap) (locs1 : List Loc), Hd ω (upI μ j 2 x) H1 → FS ω s H1 locs1 → W p l e R s m args below meth c H1 locs1 cells slots Q (F0 m (pc + 3) ls rest)) : W p l e R s m args below meth c H locs cells slots Q (F0 m pc ls (.int x :: .ref (wB ω + j) :: rest)) :=
  h_puti (ty := .int) C hH hS hj.1 hj.2.1 (by decide) rfl (show 2 < 5 by decide) rfl rfl wd_330 rfl rfl rfl hdg kk
theorem g_331 (C : Cx ω p s m args c cc nL RX7) (hH : Hd ω μ H) {j n : Nat} (hj : Is ω j 7 n) (hdg : decode cc pc = .ok (.getfield 28, 3))
    (kk : W p l e R s m args below meth c H locs cells slots Q (F0 m (pc + 3) ls (.int (μ.1 j 3) :: rest))) : W p l e R s m args below meth c H locs cells slots Q (F0 m pc ls (.ref (wB ω + j) :: rest)) :=
  h_geti C hH hj.1 hj.2.1 (by decide) rfl (show 3 < 5 by decide) rfl rfl wd_331 hdg kk
theorem p_331 (C : Cx ω p s m args c cc nL RX7) (hH : Hd ω μ H) (hS : FS ω s H locs) {j n : Nat} {x : Int32} (hj : Is ω j 7 n) (hdg : decode cc pc = .ok (.putfield 28, 3))
    (kk : ∀ (H1 : Heap) (locs1 : List Loc), Hd ω (upI μ j 3 x) H1 → FS ω s H1 locs1 → W p l e R s m args below meth c H1 locs1 cells slots Q (F0 m (pc + 3) ls rest)) : W p l e R s m args below meth c H locs cells slots Q (F0 m pc ls (.int x :: .ref (wB ω + j) :: rest)) :=
  h_puti (ty := .int) C hH hS hj.1 hj.2.1 (by decide) rfl (show 3 < 5 by decide) rfl rfl wd_331 rfl rfl rfl hdg kk
theorem g_332 (C : Cx ω p s m args c cc nL RX3) (hH : Hd ω μ H) {j n : Nat} (hj : Is ω j 7 n) (hdg : decode cc pc = .ok (.getfield 66, 3))
    (kk : W p l e R s m args below meth c H locs cells slots Q (F0 m (pc + 3) ls (.int (μ.1 j 3) :: rest))) : W p l e R s m args below meth c H locs cells slots Q (F0 m pc ls (.ref (wB ω + j) :: rest)) :=
  h_geti C hH hj.1 hj.2.1 (by decide) rfl (show 3 < 5 by decide) rfl rfl wd_332 hdg kk
theorem p_332 (C : Cx ω p s m args c cc nL RX3) (hH : Hd ω μ H) (hS : FS ω s H locs) {j n : Nat} {x : Int32} (hj : Is ω j 7 n) (hdg : decode cc pc = .ok (.putfield 66, 3))
    (kk : ∀ (H1 : Heap) (locs1 : List Loc), Hd ω (upI μ j 3 x) H1 → FS ω s H1 locs1 → W p l e R s m args below meth c H1 locs1 cells slots Q (F0 m (pc + 3) ls rest)) : W p l e R s m args below meth c H locs cells slots Q (F0 m pc ls (.int x :: .ref (wB ω + j) :: rest)) :=
  h_puti (ty := .int) C hH hS hj.1 hj.2.1 (by decide) rfl (show 3 < 5 by decide) rfl rfl wd_332 rfl rfl rfl hdg kk
theorem g_333 (C : Cx ω p s m args c cc nL RX11) (hH : Hd ω μ H) {j n : Nat} (hj : Is ω j 7 n) (hdg : decode cc pc = .ok (.getfield 188, 3))
    (kk : W p l e R s m args below meth c H locs cells slots Q (F0 m (pc + 3) ls (.int (μ.1 j 3) :: rest))) : W p l e R s m args below meth c H locs cells slots Q (F0 m pc ls (.ref (wB ω + j) :: rest)) :=
  h_geti C hH hj.1 hj.2.1 (by decide) rfl (show 3 < 5 by decide) rfl rfl wd_333 hdg kk
theorem p_333 (C : Cx ω p s m args c cc nL RX11) (hH : Hd ω μ H) (hS : FS ω s H locs) {j n : Nat} {x : Int32} (hj : Is ω j 7 n) (hdg : decode cc pc = .ok (.putfield 188, 3))
    (kk : ∀ (H1 : Heap) (locs1 : List Loc), Hd ω (upI μ j 3 x) H1 → FS ω s H1 locs1 → W p l e R s m args below meth c H1 locs1 cells slots Q (F0 m (pc + 3) ls rest)) : W p l e R s m args below meth c H locs cells slots Q (F0 m pc ls (.int x :: .ref (wB ω + j) :: rest)) :=
  h_puti (ty := .int) C hH hS hj.1 hj.2.1 (by decide) rfl (show 3 < 5 by decide) rfl rfl wd_333 rfl rfl rfl hdg kk
theorem g_334 (C : Cx ω p s m args c cc nL RX7) (hH : Hd ω μ H) {j n : Nat} (hj : Is ω j 7 n) (hdg : decode cc pc = .ok (.getfield 31, 3))
    (kk : W p l e R s m args below meth c H locs cells slots Q (F0 m (pc + 3) ls (.int (μ.1 j 4) :: rest))) : W p l e R s m args below meth c H locs cells slots Q (F0 m pc ls (.ref (wB ω + j) :: rest)) :=
  h_geti C hH hj.1 hj.2.1 (by decide) rfl (show 4 < 5 by decide) rfl rfl wd_334 hdg kk
theorem p_334 (C : Cx ω p s m args c cc nL RX7) (hH : Hd ω μ H) (hS : FS ω s H locs) {j n : Nat} {x : Int32} (hj : Is ω j 7 n) (hdg : decode cc pc = .ok (.putfield 31, 3))
    (kk : ∀ (H1 : Heap) (locs1 : List Loc), Hd ω (upI μ j 4 x) H1 → FS ω s H1 locs1 → W p l e R s m args below meth c H1 locs1 cells slots Q (F0 m (pc + 3) ls rest)) : W p l e R s m args below meth c H locs cells slots Q (F0 m pc ls (.int x :: .ref (wB ω + j) :: rest)) :=
  h_puti (ty := .int) C hH hS hj.1 hj.2.1 (by decide) rfl (show 4 < 5 by decide) rfl rfl wd_334 rfl rfl rfl hdg kk
theorem g_335 (C : Cx ω p s m args c cc nL RX3) (hH : Hd ω μ H) {j n : Nat} (hj : Is ω j 7 n) (hdg : decode cc pc = .ok (.getfield 69, 3))
    (kk : W p l e R s m args below meth c H locs cells slots Q (F0 m (pc + 3) ls (.int (μ.1 j 4) :: rest))) : W p l e R s m args below meth c H locs cells slots Q (F0 m pc ls (.ref (wB ω + j) :: rest)) :=
  h_geti C hH hj.1 hj.2.1 (by decide) rfl (show 4 < 5 by decide) rfl rfl wd_335 hdg kk
theorem p_335 (C : Cx ω p s m args c cc nL RX3) (hH : Hd ω μ H) (hS : FS ω s H locs) {j n : Nat} {x : Int32} (hj : Is ω j 7 n) (hdg : decode cc pc = .ok (.putfield 69, 3))
    (kk : ∀ (H1 : Heap) (locs1 : List Loc), Hd ω (upI μ j 4 x) H1 → FS ω s H1 locs1 → W p l e R s m args below meth c H1 locs1 cells slots Q (F0 m (pc + 3) ls rest)) : W p l e R s m args below meth c H locs cells slots Q (F0 m pc ls (.int x :: .ref (wB ω + j) :: rest)) :=
  h_puti (ty := .int) C hH hS hj.1 hj.2.1 (by decide) rfl (show 4 < 5 by decide) rfl rfl wd_335 rfl rfl rfl hdg kk
theorem g_336 (C : Cx ω p s m args c cc nL RX11) (hH : Hd ω μ H) {j n : Nat} (hj : Is ω j 7 n) (hdg : decode cc pc = .ok (.getfield 191, 3))
    (kk : W p l e R s m args below meth c H locs cells slots Q (F0 m (pc + 3) ls (.int (μ.1 j 4) :: rest))) : W p l e R s m args below meth c H locs cells slots Q (F0 m pc ls (.ref (wB ω + j) :: rest)) :=
  h_geti C hH hj.1 hj.2.1 (by decide) rfl (show 4 < 5 by decide) rfl rfl wd_336 hdg kk
theorem p_336 (C : Cx ω p s m args c cc nL RX11) (hH : Hd ω μ H) (hS : FS ω s H locs) {j n : Nat} {x : Int32} (hj : Is ω j 7 n) (hdg : decode cc pc = .ok (.putfield 191, 3))
    (kk : ∀ (H1 : Heap) (locs1 : List Loc), Hd ω (upI μ j 4 x) H1 → FS ω s H1 locs1 → W p l e R s m args below meth c H1 locs1 cells slots Q (F0 m (pc + 3) ls rest)) : W p l e R s m args below meth c H locs cells slots Q (F0 m pc ls (.int x :: .ref (wB ω + j) :: rest)) :=
  h_puti (ty := .int) C hH hS hj.1 hj.2.1 (by decide) rfl (show 4 < 5 by decide) rfl rfl wd_336 rfl rfl rfl hdg kk
theorem g_357 (C : Cx ω p s m args c cc nL RX0) (hH : Hd ω μ H) {j n i : Nat} (hj : Is ω j 0 n) (hi : j + 1 = i) (hdg : decode cc pc = .ok (.getfield 11, 3))
    (kk : W p l e R s m args below meth c H locs cells slots Q (F0 m (pc + 3) ls (.ref (wB ω + i) :: rest))) : W p l e R s m args below meth c H locs cells slots Q (F0 m pc ls (.ref (wB ω + j) :: rest)) :=
  h_getr C hH hj.1 hj.2.1 (by decide) rfl (show 0 < 5 by decide) rfl (by decide) (hj.2.2 _) hi wd_357 hdg kk
theorem g_358 (C : Cx ω p s m args c cc nL RX0) (hH : Hd ω μ H) {j n i : Nat} (hj : Is ω j 0 n) (hi : j + 82 = i) (hdg : decode cc pc = .ok (.getfield 16, 3))
    (kk : W p l e R s m args below meth c H locs cells slots Q (F0 m (pc + 3) ls (.ref (wB ω + i) :: rest))) : W p l e R s m args below meth c H locs cells slots Q (F0 m pc ls (.ref (wB ω + j) :: rest)) :=
  h_getr C hH hj.1 hj.2.1 (by decide) rfl (show 1 < 5 by decide) rfl (by decide) (hj.2.2 _) hi wd_358 hdg kk
theorem g_359 (C : Cx ω p s m args c cc nL RX0) (hH : Hd ω μ H) {j n i : Nat} (hj : Is ω j 0 n) (hi : j + 89 = i) (hdg : decode cc pc = .ok (.getfield 19, 3))
    (kk : W p l e R s m args below meth c H locs cells slots Q (F0 m (pc + 3) ls (.ref (wB ω + i) :: rest))) : W p l e R s m args below meth c H locs cells slots Q (F0 m pc ls (.ref (wB ω + j) :: rest)) :=
  h_getr C hH hj.1 hj.2.1 (by decide) rfl (show 2 < 5 by decide) rfl (by decide) (hj.2.2 _) hi wd_359 hdg kk
theorem g_360 (C : Cx ω p s m args c cc nL RX0) (hH : Hd ω μ H) {j n : Nat} (hj : Is ω j 0 n) (hdg : decode cc pc = .ok (.getfield 23, 3))
    (kk : W p l e R s m args below meth c H locs cells slots Q (F0 m (pc + 3) ls (.int (μ.1 j 3) :: rest))) : W p l e R s m args below meth c H locs cells slots Q (F0 m pc ls (.ref (wB ω + j) :: rest)) :=
  h_geti C hH hj.1 hj.2.1 (by decide) rfl (show 3 < 5 by decide) rfl rfl wd_360 hdg kk
theorem p_360 (C : Cx ω p s m args c cc nL RX0) (hH : Hd ω μ H) (hS : FS ω s H locs) {j n : Nat} {x : Int32} (hj : Is ω j 0 n) (hdg : decode cc pc = .ok (.putfield 23, 3))
    (kk : ∀ (H1 : Heap) (locs1 : List Loc), Hd ω (upI μ j 3 x) H1 → FS ω s H1 locs1 → W p l e R s m args below meth c H1 locs1 cells slots Q (F0 m (pc + 3) ls rest)) : W p l e R s m args below meth c H locs cells slots Q (F0 m pc ls (.int x :: .ref (wB ω + j) :: rest)) :=
  h_puti (ty := .int) C hH hS hj.1 hj.2.1 (by decide) rfl (show 3 < 5 by decide) rfl rfl wd_360 rfl rfl rfl hdg kk
theorem g_361 (C : Cx ω p s m args c cc nL RX0) (hH : Hd ω μ H) {j n : Nat} (hj : Is ω j 0 n) (hdg : decode cc pc = .ok (.getfield 31, 3))
    (kk : W p l e R s m args below meth c H locs cells slots Q (F0 m (pc + 3) ls (.int (μ.1 j 4) :: rest))) : W p l e R s m args below meth c H locs cells slots Q (F0 m pc ls (.ref (wB ω + j) :: rest)) :=
  h_geti C hH hj.1 hj.2.1 (by decide) rfl (show 4 < 5 by decide) rfl rfl wd_361 hdg kk
theorem p_361 (C : Cx ω p s m args c cc nL RX0) (hH : Hd ω μ H) (hS : FS ω s H locs) {j n : Nat} {x : Int32} (hj : Is ω j 0 n) (hdg : decode cc pc = .ok (.putfield 31, 3))
    (kk : ∀ (H1 : Heap) (locs1 : List Loc), Hd ω (upI μ j 4 x) H1 → FS ω s H1 locs1 → W p l e R s m args below meth c H1 locs1 cells slots Q (F0 m (pc + 3) ls rest)) : W p l e R s m args below meth c H locs cells slots Q (F0 m pc ls (.int x :: .ref (wB ω + j) :: rest)) :=
  h_puti (ty := .int) C hH hS hj.1 hj.2.1 (by decide) rfl (show 4 < 5 by decide) rfl rfl wd_361 rfl rfl rfl hdg kk
theorem g_362 (C : Cx ω p s m args c cc nL RX11) (hH : Hd ω μ H) {j n : Nat} (hj : Is ω j 0 n) (hdg : decode cc pc = .ok (.getfield 171, 3))
    (kk : W p l e R s m args below meth c H locs cells slots Q (F0 m (pc + 3) ls (.int (μ.1 j 4) :: rest))) : W p l e R s m args below meth c H locs cells slots Q (F0 m pc ls (.ref (wB ω + j) :: rest)) :=
  h_geti C hH hj.1 hj.2.1 (by decide) rfl (show 4 < 5 by decide) rfl rfl wd_362 hdg kk
theorem p_362 (C : Cx ω p s m args c cc nL RX11) (hH : Hd ω μ H) (hS : FS ω s H locs) {j n : Nat} {x : Int32} (hj : Is ω j 0 n) (hdg : decode cc pc = .ok (.putfield 171, 3))
    (kk : ∀ (H1 : Heap) (locs1 : List Loc), Hd ω (upI μ j 4 x) H1 → FS ω s H1 locs1 → W p l e R s m args below meth c H1 locs1 cells slots Q (F0 m (pc + 3) ls rest)) : W p l e R s m args below meth c H locs cells slots Q (F0 m pc ls (.int x :: .ref (wB ω + j) :: rest)) :=
  h_puti (ty := .int) C hH hS hj.1 hj.2.1 (by decide) rfl (show 4 < 5 by decide) rfl rfl wd_362 rfl rfl rfl hdg kk
theorem g_385 (C : Cx ω p s m args c cc nL RX6) (hH : Hd ω μ H) {j n : Nat} (hj : Is ω j 6 n) (hdg : decode cc pc = .ok (.getfield 9, 3))
    (kk : W p l e R s m args below meth c H locs cells slots Q (F0 m (pc + 3) ls (.int (μ.1 j 0) :: rest))) : W p l e R s m args below meth c H locs cells slots Q (F0 m pc ls (.ref (wB ω + j) :: rest)) :=
  h_geti C hH hj.1 hj.2.1 (by decide) rfl (show 0 < 6 by decide) rfl rfl wd_385 hdg kk
theorem g_386 (C : Cx ω p s m args c cc nL RX6) (hH : Hd ω μ H) {j n i : Nat} (hj : Is ω j 6 n) (hi : j + 1 = i) (hdg : decode cc pc = .ok (.getfield 18, 3))
    (kk : W p l e R s m args below meth c H locs cells slots Q (F0 m (pc + 3) ls (.ref (wB ω + i) :: rest))) : W p l e R s m args below meth c H locs cells slots Q (F0 m pc ls (.ref (wB ω + j) :: rest)) :=
  h_getr C hH hj.1 hj.2.1 (by decide) rfl (show 1 < 6 by decide) rfl (by decide) (hj.2.2 _) hi wd_386 hdg kk
theorem g_387 (C : Cx ω p s m args c cc nL RX6) (hH : Hd ω μ H) {j n i : Nat} (hj : Is ω j 6 n) (hi : j + 3 = i) (hdg : decode cc pc = .ok (.getfield 24, 3))
    (kk : W p l e R s m args below meth c H locs cells slots Q (F0 m (pc + 3) ls (.ref (wB ω + i) :: rest))) : W p l e R s m args below meth c H locs cells slots Q (F0 m pc ls (.ref (wB ω + j) :: rest)) :=
  h_getr C hH hj.1 hj.2.1 (by decide) rfl (show 2 < 6 by decide) rfl (by decide) (hj.2.2 _) hi wd_387 hdg kk
theorem g_388 (C : Cx ω p s m args c cc nL RX6) (hH : Hd ω μ H) {j n i : Nat} (hj : Is ω j 6 n) (hi : j + 10 = i) (hdg : decode cc pc = .ok (.getfield 27, 3))
    (kk : W p l e R s m args below meth c H locs cells slots Q (F0 m (pc + 3) ls (.ref (wB ω + i) :: rest))) : W p l e R s m args below meth c H locs cells slots Q (F0 m pc ls (.ref (wB ω + j) :: rest)) :=
  h_getr C hH hj.1 hj.2.1 (by decide) rfl (show 3 < 6 by decide) rfl (by decide) (hj.2.2 _) hi wd_388 hdg kk
theorem g_389 (C : Cx ω p s m args c cc nL RX6) (hH : Hd ω μ H) {j n i : Nat} (hj : Is ω j 6 n) (hi : j + 18 = i) (hdg : decode cc pc = .ok (.getfield 30, 3))
    (kk : W p l e R s m args below meth c H locs cells slots Q (F0 m (pc + 3) ls (.ref (wB ω + i) :: rest))) : W p l e R s m args below meth c H locs cells slots Q (F0 m pc ls (.ref (wB ω + j) :: rest)) :=
  h_getr C hH hj.1 hj.2.1 (by decide) rfl (show 4 < 6 by decide) rfl (by decide) (hj.2.2 _) hi wd_389 hdg kk
theorem g_390 (C : Cx ω p s m args c cc nL RX6) (hH : Hd ω μ H) {j n : Nat} (hj : Is ω j 6 n) (hdg : decode cc pc = .ok (.getfield 45, 3))
    (kk : W p l e R s m args below meth c H locs cells slots Q (F0 m (pc + 3) ls (.int (μ.1 j 5) :: rest))) : W p l e R s m args below meth c H locs cells slots Q (F0 m pc ls (.ref (wB ω + j) :: rest)) :=
  h_geti C hH hj.1 hj.2.1 (by decide) rfl (show 5 < 6 by decide) rfl rfl wd_390 hdg kk
theorem p_390 (C : Cx ω p s m args c cc nL RX6) (hH : Hd ω μ H) (hS : FS ω s H locs) {j n : Nat} {x : Int32} (hj : Is ω j 6 n) (hdg : decode cc pc = .ok (.putfield 45, 3))
    (kk : ∀ (H1 : Heap) (locs1 : List Loc), Hd ω (upI μ j 5 x) H1 → FS ω s H1 locs1 → W p l e R s m args below meth c H1 locs1 cells slots Q (F0 m (pc + 3) ls rest)) : W p l e R s m args below meth c H locs cells slots Q (F0 m pc ls (.int x :: .ref (wB ω + j) :: rest)) :=
  h_puti (ty := .int) C hH hS hj.1 hj.2.1 (by decide) rfl (show 5 < 6 by decide) rfl rfl wd_390 rfl rfl rfl hdg kk
theorem g_410 (C : Cx ω p s m args c cc nL RX10) (hH : Hd ω μ H) {j n i : Nat} (hj : Is ω j 10 n) (hi : j + 1 = i) (hdg : decode cc pc = .ok (.getfield 9, 3))
    (kk : W p l e R s m args below meth c H locs cells slots Q (F0 m (pc + 3) ls (.ref (wB ω + i) :: rest))) : W p l e R s m args below meth c H locs cells slots Q (F0 m pc ls (.ref (wB ω + j) :: rest)) :=
  h_getr C hH hj.1 hj.2.1 (by decide) rfl (show 0 < 3 by decide) rfl (by decide) (hj.2.2 _) hi wd_410 hdg kk
theorem g_411 (C : Cx ω p s m args c cc nL RX10) (hH : Hd ω μ H) {j n i : Nat} (hj : Is ω j 10 n) (hi : j + 2 = i) (hdg : decode cc pc = .ok (.getfield 15, 3))
    (kk : W p l e R s m args below meth c H locs cells slots Q (F0 m (pc + 3) ls (.ref (wB ω + i) :: rest))) : W p l e R s m args below meth c H locs cells slots Q (F0 m pc ls (.ref (wB ω + j) :: rest)) :=
  h_getr C hH hj.1 hj.2.1 (by decide) rfl (show 1 < 3 by decide) rfl (by decide) (hj.2.2 _) hi wd_411 hdg kk
theorem g_412 (C : Cx ω p s m args c cc nL RX11) (hH : Hd ω μ H) {j n i : Nat} (hj : Is ω j 10 n) (hi : j + 2 = i) (hdg : decode cc pc = .ok (.getfield 294, 3))
    (kk : W p l e R s m args below meth c H locs cells slots Q (F0 m (pc + 3) ls (.ref (wB ω + i) :: rest))) : W p l e R s m args below meth c H locs cells slots Q (F0 m pc ls (.ref (wB ω + j) :: rest)) :=
  h_getr C hH hj.1 hj.2.1 (by decide) rfl (show 1 < 3 by decide) rfl (by decide) (hj.2.2 _) hi wd_412 hdg kk
theorem g_413 (C : Cx ω p s m args c cc nL RX10) (hH : Hd ω μ H) {j n : Nat} (hj : Is ω j 10 n) (hdg : decode cc pc = .ok (.getfield 19, 3))
    (kk : W p l e R s m args below meth c H locs cells slots Q (F0 m (pc + 3) ls (.int (μ.1 j 2) :: rest))) : W p l e R s m args below meth c H locs cells slots Q (F0 m pc ls (.ref (wB ω + j) :: rest)) :=
  h_geti C hH hj.1 hj.2.1 (by decide) rfl (show 2 < 3 by decide) rfl rfl wd_413 hdg kk
theorem p_413 (C : Cx ω p s m args c cc nL RX10) (hH : Hd ω μ H) (hS : FS ω s H locs) {j n : Nat} {x : Int32} (hj : Is ω j 10 n) (hdg : decode cc pc = .ok (.putfield 19, 3))
    (kk : ∀ (H1 : Heap) (locs1 : List Loc), Hd ω (upI μ j 2 x) H1 → FS ω s H1 locs1 → W p l e R s m args below meth c H1 locs1 cells slots Q (F0 m (pc + 3) ls rest)) : W p l e R s m args below meth c H locs cells slots Q (F0 m pc ls (.int x :: .ref (wB ω + j) :: rest)) :=
  h_puti (ty := .int) C hH hS hj.1 hj.2.1 (by decide) rfl (show 2 < 3 by decide) rfl rfl wd_413 rfl rfl rfl hdg kk
theorem g_414 (C : Cx ω p s m args c cc nL RX11) (hH : Hd ω μ H) {j n : Nat} (hj : Is ω j 10 n) (hdg : decode cc pc = .ok (.getfield 291, 3))
    (kk : W p l e R s m args below meth c H locs cells slots Q (F0 m (pc + 3) ls (.int (μ.1 j 2) :: rest))) : W p l e R s m args below meth c H locs cells slots Q (F0 m pc ls (.ref (wB ω + j) :: rest)) :=
  h_geti C hH hj.1 hj.2.1 (by decide) rfl (show 2 < 3 by decide) rfl rfl wd_414 hdg kk
theorem p_414 (C : Cx ω p s m args c cc nL RX11) (hH : Hd ω μ H) (hS : FS ω s H locs) {j n : Nat} {x : Int32} (hj : Is ω j 10 n) (hdg : decode cc pc = .ok (.putfield 291, 3))
    (kk : ∀ (H1 : Heap) (locs1 : List Loc), Hd ω (upI μ j 2 x) H1 → FS ω s H1 locs1 → W p l e R s m args below meth c H1 locs1 cells slots Q (F0 m (pc + 3) ls rest)) : W p l e R s m args below meth c H locs cells slots Q (F0 m pc ls (.int x :: .ref (wB ω + j) :: rest)) :=
  h_puti (ty := .int) C hH hS hj.1 hj.2.1 (by decide) rfl (show 2 < 3 by decide) rfl rfl wd_414 rfl rfl rfl hdg kk
theorem g_428 (C : Cx ω p s m args c cc nL RX5) (hH : Hd ω μ H) {j n i : Nat} (hj : Is ω j 5 n) (hi : j + 1 = i) (hdg : decode cc pc = .ok (.getfield 9, 3))
    (kk : W p l e R s m args below meth c H locs cells slots Q (F0 m (pc + 3) ls (.ref (wB ω + i) :: rest))) : W p l e R s m args below meth c H locs cells slots Q (F0 m pc ls (.ref (wB ω + j) :: rest)) :=
  h_getr C hH hj.1 hj.2.1 (by decide) rfl (show 0 < 2 by decide) rfl (by decide) (hj.2.2 _) hi wd_428 hdg kk
theorem g_429 (C : Cx ω p s m args c cc nL RX11) (hH : Hd ω μ H) {j n i : Nat} (hj : Is ω j 5 n) (hi : j + 1 = i) (hdg : decode cc pc = .ok (.getfield 310, 3))
    (kk : W p l e R s m args below meth c H locs cells slots Q (F0 m (pc + 3) ls (.ref (wB ω + i) :: rest))) : W p l e R s m args below meth c H locs cells slots Q (F0 m pc ls (.ref (wB ω + j) :: rest)) :=
  h_getr C hH hj.1 hj.2.1 (by decide) rfl (show 0 < 2 by decide) rfl (by decide) (hj.2.2 _) hi wd_429 hdg kk
theorem g_430 (C : Cx ω p s m args c cc nL RX5) (hH : Hd ω μ H) {j n i : Nat} (hj : Is ω j 5 n) (hi : j + 2 = i) (hdg : decode cc pc = .ok (.getfield 15, 3))
    (kk : W p l e R s m args below meth c H locs cells slots Q (F0 m (pc + 3) ls (.ref (wB ω + i) :: rest))) : W p l e R s m args below meth c H locs cells slots Q (F0 m pc ls (.ref (wB ω + j) :: rest)) :=
  h_getr C hH hj.1 hj.2.1 (by decide) rfl (show 1 < 2 by decide) rfl (by decide) (hj.2.2 _) hi wd_430 hdg kk
theorem g_442 (C : Cx ω p s m args c cc nL RX2) (hH : Hd ω μ H) {j n i : Nat} (hj : Is ω j 2 n) (hi : j + 1 = i) (hdg : decode cc pc = .ok (.getfield 9, 3))
    (kk : W p l e R s m args below meth c H locs cells slots Q (F0 m (pc + 3) ls (.ref (wB ω + i) :: rest))) : W p l e R s m args below meth c H locs cells slots Q (F0 m pc ls (.ref (wB ω + j) :: rest)) :=
  h_getr C hH hj.1 hj.2.1 (by decide) rfl (show 0 < 3 by decide) rfl (by decide) (hj.2.2 _) hi wd_442 hdg kk
theorem g_443 (C : Cx ω p s m args c cc nL RX2) (hH : Hd ω μ H) {j n i : Nat} (hj : Is ω j 2 n) (hi : j + 2 = i) (hdg : decode cc pc = .ok (.getfield 15, 3))
    (kk : W p l e R s m args below meth c H locs cells slots Q (F0 m (pc + 3) ls (.ref (wB ω + i) :: rest))) : W p l e R s m args below meth c H locs cells slots Q (F0 m pc ls (.ref (wB ω + j) :: rest)) :=
  h_getr C hH hj.1 hj.2.1 (by decide) rfl (show 1 < 3 by decide) rfl (by decide) (hj.2.2 _) hi wd_443 hdg kk
theorem g_444 (C : Cx ω p s m args c cc nL RX11) (hH : Hd ω μ H) {j n i : Nat} (hj : Is ω j 2 n) (hi : j + 2 = i) (hdg : decode cc pc = .ok (.getfield 318, 3))
    (kk : W p l e R s m args below meth c H locs cells slots Q (F0 m (pc + 3) ls (.ref (wB ω + i) :: rest))) : W p l e R s m args below meth c H locs cells slots Q (F0 m pc ls (.ref (wB ω + j) :: rest)) :=
  h_getr C hH hj.1 hj.2.1 (by decide) rfl (show 1 < 3 by decide) rfl (by decide) (hj.2.2 _) hi wd_444 hdg kk
theorem g_445 (C : Cx ω p s m args c cc nL RX2) (hH : Hd ω μ H) {j n : Nat} (hj : Is ω j 2 n) (hdg : decode cc pc = .ok (.getfield 19, 3))
    (kk : W p l e R s m args below meth c H locs cells slots Q (F0 m (pc + 3) ls (.int (μ.1 j 2) :: rest))) : W p l e R s m args below meth c H locs cells slots Q (F0 m pc ls (.ref (wB ω + j) :: rest)) :=
  h_geti C hH hj.1 hj.2.1 (by decide) rfl (show 2 < 3 by decide) rfl rfl wd_445 hdg kk
theorem p_445 (C : Cx ω p s m args c cc nL RX2) (hH : Hd ω μ H) (hS : FS ω s H locs) {j n : Nat} {x : Int32} (hj : Is ω j 2 n) (hdg : decode cc pc = .ok (.putfield 19, 3))
    (kk : ∀ (H1 : Heap) (locs1 : List Loc), Hd ω (upI μ j 2 x) H1 → FS ω s H1 locs1 → W p l e R s m args below meth c H1 locs1 cells slots Q (F0 m (pc + 3) ls rest)) : W p l e R s m args below meth c H locs cells slots Q (F0 m pc ls (.int x :: .ref (wB ω + j) :: rest)) :=
  h_puti (ty := .int) C hH hS hj.1 hj.2.1 (by decide) rfl (show 2 < 3 by decide) rfl rfl wd_445 rfl rfl rfl hdg kk
theorem g_446 (C : Cx ω p s m args c cc nL RX11) (hH : Hd ω μ H) {j n : Nat} (hj : Is ω j 2 n) (hdg : decode cc pc = .ok (.getfield 315, 3))
    (kk : W p l e R s m args below meth c H locs cells slots Q (F0 m (pc + 3) ls (.int (μ.1 j 2) :: rest))) : W p l e R s m args below meth c H locs cells slots Q (F0 m pc ls (.ref (wB ω + j) :: rest)) :=
  h_geti C hH hj.1 hj.2.1 (by decide) rfl (show 2 < 3 by decide) rfl rfl wd_446 hdg kk
theorem p_446 (C : Cx ω p s m args c cc nL RX11) (hH : Hd ω μ H) (hS : FS ω s H locs) {j n : Nat} {x : Int32} (hj : Is ω j 2 n) (hdg : decode cc pc = .ok (.putfield 315, 3))
    (kk : ∀ (H1 : Heap) (locs1 : List Loc), Hd ω (upI μ j 2 x) H1 → FS ω s H1 locs1 → W p l e R s m args below meth c H1 locs1 cells slots Q (F0 m (pc + 3) ls rest)) : W p l e R s m args below meth c H locs cells slots Q (F0 m pc ls (.int x :: .ref (wB ω + j) :: rest)) :=
  h_puti (ty := .int) C hH hS hj.1 hj.2.1 (by decide) rfl (show 2 < 3 by decide) rfl rfl wd_446 rfl rfl rfl hdg kk
theorem g_460 (C : Cx ω p s m args c cc nL RX9) (hH : Hd ω μ H) {j n i : Nat} (hj : Is ω j 9 n) (hi : j + 1 = i) (hdg : decode cc pc = .ok (.getfield 11, 3))
    (kk : W p l e R s m args below meth c H locs cells slots Q (F0 m (pc + 3) ls (.ref (wB ω + i) :: rest))) : W p l e R s m args below meth c H locs cells slots Q (F0 m pc ls (.ref (wB ω + j) :: rest)) :=
  h_getr C hH hj.1 hj.2.1 (by decide) rfl (show 0 < 4 by decide) rfl (by decide) (hj.2.2 _) hi wd_460 hdg kk
theorem g_461 (C : Cx ω p s m args c cc nL RX9) (hH : Hd ω μ H) {j n i : Nat} (hj : Is ω j 9 n) (hi : j + 2 = i) (hdg : decode cc pc = .ok (.getfield 15, 3))
    (kk : W p l e R s m args below meth c H locs cells slots Q (F0 m (pc + 3) ls (.ref (wB ω + i) :: rest))) : W p l e R s m args below meth c H locs cells slots Q (F0 m pc ls (.ref (wB ω + j) :: rest)) :=
  h_getr C hH hj.1 hj.2.1 (by decide) rfl (show 1 < 4 by decide) rfl (by decide) (hj.2.2 _) hi wd_461 hdg kk
theorem g_462 (C : Cx ω p s m args c cc nL RX9) (hH : Hd ω μ H) {j n i : Nat} (hj : Is ω j 9 n) (hi : j + 3 = i) (hdg : decode cc pc = .ok (.getfield 18, 3))
    (kk : W p l e R s m args below meth c H locs cells slots Q (F0 m (pc + 3) ls (.ref (wB ω + i) :: rest))) : W p l e R s m args below meth c H locs cells slots Q (F0 m pc ls (.ref (wB ω + j) :: rest)) :=
  h_getr C hH hj.1 hj.2.1 (by decide) rfl (show 2 < 4 by decide) rfl (by decide) (hj.2.2 _) hi wd_462 hdg kk
theorem g_463 (C : Cx ω p s m args c cc nL RX9) (hH : Hd ω μ H) {j n : Nat} (hj : Is ω j 9 n) (hdg : decode cc pc = .ok (.getfield 22, 3))
    (kk : W p l e R s m args below meth c H locs cells slots Q (F0 m (pc + 3) ls (.int (μ.1 j 3) :: rest))) : W p l e R s m args below meth c H locs cells slots Q (F0 m pc ls (.ref (wB ω + j) :: rest)) :=
  h_geti C hH hj.1 hj.2.1 (by decide) rfl (show 3 < 4 by decide) rfl rfl wd_463 hdg kk
theorem p_463 (C : Cx ω p s m args c cc nL RX9) (hH : Hd ω μ H) (hS : FS ω s H locs) {j n : Nat} {x : Int32} (hj : Is ω j 9 n) (hdg : decode cc pc = .ok (.putfield 22, 3))
    (kk : ∀ (H1 : Heap) (locs1 : List Loc), Hd ω (upI μ j 3 x) H1 → FS ω s H1 locs1 → W p l e R s m args below meth c H1 locs1 cells slots Q (F0 m (pc + 3) ls rest)) : W p l e R s m args below meth c H locs cells slots Q (F0 m pc ls (.int x :: .ref (wB ω + j) :: rest)) :=
  h_puti (ty := .int) C hH hS hj.1 hj.2.1 (by decide) rfl (show 3 < 4 by decide) rfl rfl wd_463 rfl rfl rfl hdg kk
theorem g_464 (C : Cx ω p s m args c cc nL RX11) (hH : Hd ω μ H) {j n : Nat} (hj : Is ω j 9 n) (hdg : decode cc pc = .ok (.getfield 127, 3))
    (kk : W p l e R s m args below meth c H locs cells slots Q (F0 m (pc + 3) ls (.int (μ.1 j 3) :: rest))) : W p l e R s m args below meth c H locs cells slots Q (F0 m pc ls (.ref (wB ω + j) :: rest)) :=
  h_geti C hH hj.1 hj.2.1 (by decide) rfl (show 3 < 4 by decide) rfl rfl wd_464 hdg kk
theorem p_464 (C : Cx ω p s m args c cc nL RX11) (hH : Hd ω μ H) (hS : FS ω s H locs) {j n : Nat} {x : Int32} (hj : Is ω j 9 n) (hdg : decode cc pc = .ok (.putfield 127, 3))
    (kk : ∀ (H1 : Heap) (locs1 : List Loc), Hd ω (upI μ j 3 x) H1 → FS ω s H1 locs1 → W p l e R s m args below meth c H1 locs1 cells slots Q (F0 m (pc + 3) ls rest)) : W p l e R s m args below meth c H locs cells slots Q (F0 m pc ls (.int x :: .ref (wB ω + j) :: rest)) :=
  h_puti (ty := .int) C hH hS hj.1 hj.2.1 (by decide) rfl (show 3 < 4 by decide) rfl rfl wd_464 rfl rfl rfl hdg kk
theorem g_474 (C : Cx ω p s m args c cc nL RX11) (hH : Hd ω μ H) {j n i : Nat} (hj : Is ω j 11 n) (hi : j + 1 = i) (hdg : decode cc pc = .ok (.getfield 9, 3))
    (kk : W p l e R s m args below meth c H locs cells slots Q (F0 m (pc + 3) ls (.ref (wB ω + i) :: rest))) : W p l e R s m args below meth c H locs cells slots Q (F0 m pc ls (.ref (wB ω + j) :: rest)) :=
  h_getr C hH hj.1 hj.2.1 (by decide) rfl (show 0 < 17 by decide) rfl (by decide) (hj.2.2 _) hi wd_474 hdg kk
theorem g_475 (C : Cx ω p s m args c cc nL RX11) (hH : Hd ω μ H) {j n i : Nat} (hj : Is ω j 11 n) (hi : j + 2 = i) (hdg : decode cc pc = .ok (.getfield 16, 3))
    (kk : W p l e R s m args below meth c H locs cells slots Q (F0 m (pc + 3) ls (.ref (wB ω + i) :: rest))) : W p l e R s m args below meth c H locs cells slots Q (F0 m pc ls (.ref (wB ω + j) :: rest)) :=
  h_getr C hH hj.1 hj.2.1 (by decide) rfl (show 1 < 17 by decide) rfl (by decide) (hj.2.2 _) hi wd_475 hdg kk
theorem g_476 (C : Cx ω p s m args c cc nL RX11) (hH : Hd ω μ H) {j n i : Nat} (hj : Is ω j 11 n) (hi : j + 16 = i) (hdg : decode cc pc = .ok (.getfield 23, 3))
    (kk : W p l e R s m args below meth c H locs cells slots Q (F0 m (pc + 3) ls (.ref (wB ω + i) :: rest))) : W p l e R s m args below meth c H locs cells slots Q (F0 m pc ls (.ref (wB ω + j) :: rest)) :=
  h_getr C hH hj.1 hj.2.1 (by decide) rfl (show 2 < 17 by decide) rfl (by decide) (hj.2.2 _) hi wd_476 hdg kk
theorem g_477 (C : Cx ω p s m args c cc nL RX11) (hH : Hd ω μ H) {j n i : Nat} (hj : Is ω j 11 n) (hi : j + 23 = i) (hdg : decode cc pc = .ok (.getfield 30, 3))
    (kk : W p l e R s m args below meth c H locs cells slots Q (F0 m (pc + 3) ls (.ref (wB ω + i) :: rest))) : W p l e R s m args below meth c H locs cells slots Q (F0 m pc ls (.ref (wB ω + j) :: rest)) :=
  h_getr C hH hj.1 hj.2.1 (by decide) rfl (show 3 < 17 by decide) rfl (by decide) (hj.2.2 _) hi wd_477 hdg kk
theorem g_478 (C : Cx ω p s m args c cc nL RX11) (hH : Hd ω μ H) {j n i : Nat} (hj : Is ω j 11 n) (hi : j + 25 = i) (hdg : decode cc pc = .ok (.getfield 39, 3))
    (kk : W p l e R s m args below meth c H locs cells slots Q (F0 m (pc + 3) ls (.ref (wB ω + i) :: rest))) : W p l e R s m args below meth c H locs cells slots Q (F0 m pc ls (.ref (wB ω + j) :: rest)) :=
  h_getr C hH hj.1 hj.2.1 (by decide) rfl (show 4 < 17 by decide) rfl (by decide) (hj.2.2 _) hi wd_478 hdg kk
theorem g_479 (C : Cx ω p s m args c cc nL RX11) (hH : Hd ω μ H) {j n i : Nat} (hj : Is ω j 11 n) (hi : j + 27 = i) (hdg : decode cc pc = .ok (.getfield 42, 3))
    (kk : W p l e R s m args below meth c H locs cells slots Q (F0 m (pc + 3) ls (.ref (wB ω + i) :: rest))) : W p l e R s m args below meth c H locs cells slots Q (F0 m pc ls (.ref (wB ω + j) :: rest)) :=
  h_getr C hH hj.1 hj.2.1 (by decide) rfl (show 5 < 17 by decide) rfl (by decide) (hj.2.2 _) hi wd_479 hdg kk
theorem g_480 (C : Cx ω p s m args c cc nL RX11) (hH : Hd ω μ H) {j n i : Nat} (hj : Is ω j 11 n) (hi : j + 29 = i) (hdg : decode cc pc = .ok (.getfield 48, 3))
    (kk : W p l e R s m args below meth c H locs cells slots Q (F0 m (pc + 3) ls (.ref (wB ω + i) :: rest))) : W p l e R s m args below meth c H locs cells slots Q (F0 m pc ls (.ref (wB ω + j) :: rest)) :=
  h_getr C hH hj.1 hj.2.1 (by decide) rfl (show 6 < 17 by decide) rfl (by decide) (hj.2.2 _) hi wd_480 hdg kk
theorem g_481 (C : Cx ω p s m args c cc nL RX11) (hH : Hd ω μ H) {j n i : Nat} (hj : Is ω j 11 n) (hi : j + 119 = i) (hdg : decode cc pc = .ok (.getfield 57, 3))
    (kk : W p l e R s m args below meth c H locs cells slots Q (F0 m (pc + 3) ls (.ref (wB ω + i) :: rest))) : W p l e R s m args below meth c H locs cells slots Q (F0 m pc ls (.ref (wB ω + j) :: rest)) :=
  h_getr C hH hj.1 hj.2.1 (by decide) rfl (show 7 < 17 by decide) rfl (by decide) (hj.2.2 _) hi wd_481 hdg kk
theorem g_482 (C : Cx ω p s m args c cc nL RX11) (hH : Hd ω μ H) {j n i : Nat} (hj : Is ω j 11 n) (hi : j + 138 = i) (hdg : decode cc pc = .ok (.getfield 61, 3))
    (kk : W p l e R s m args below meth c H locs cells slots Q (F0 m (pc + 3) ls (.ref (wB ω + i) :: rest))) : W p l e R s m args below meth c H locs cells slots Q (F0 m pc ls (.ref (wB ω + j) :: rest)) :=
  h_getr C hH hj.1 hj.2.1 (by decide) rfl (show 8 < 17 by decide) rfl (by decide) (hj.2.2 _) hi wd_482 hdg kk
theorem g_483 (C : Cx ω p s m args c cc nL RX11) (hH : Hd ω μ H) {j n i : Nat} (hj : Is ω j 11 n) (hi : j + 157 = i) (hdg : decode cc pc = .ok (.getfield 64, 3))
    (kk : W p l e R s m args below meth c H locs cells slots Q (F0 m (pc + 3) ls (.ref (wB ω + i) :: rest))) : W p l e R s m args below meth c H locs cells slots Q (F0 m pc ls (.ref (wB ω + j) :: rest)) :=
  h_getr C hH hj.1 hj.2.1 (by decide) rfl (show 9 < 17 by decide) rfl (by decide) (hj.2.2 _) hi wd_483 hdg kk
theorem g_484 (C : Cx ω p s m args c cc nL RX11) (hH : Hd ω μ H) {j n i : Nat} (hj : Is ω j 11 n) (hi : j + 176 = i) (hdg : decode cc pc = .ok (.getfield 70, 3))
    (kk : W p l e R s m args below meth c H locs cells slots Q (F0 m (pc + 3) ls (.ref (wB ω + i) :: rest))) : W p l e R s m args below meth c H locs cells slots Q (F0 m pc ls (.ref (wB ω + j) :: rest)) :=
  h_getr C hH hj.1 hj.2.1 (by decide) rfl (show 10 < 17 by decide) rfl (by decide) (hj.2.2 _) hi wd_484 hdg kk
theorem g_485 (C : Cx ω p s m args c cc nL RX11) (hH : Hd ω μ H) {j n i : Nat} (hj : Is ω j 11 n) (hi : j + 179 = i) (hdg : decode cc pc = .ok (.getfield 77, 3))
    (kk : W p l e R s m args below meth c H locs cells slots Q (F0 m (pc + 3) ls (.ref (wB ω + i) :: rest))) : W p l e R s m args below meth c H locs cells slots Q (F0 m pc ls (.ref (wB ω + j) :: rest)) :=
  h_getr C hH hj.1 hj.2.1 (by decide) rfl (show 11 < 17 by decide) rfl (by decide) (hj.2.2 _) hi wd_485 hdg kk
theorem g_486 (C : Cx ω p s m args c cc nL RX11) (hH : Hd ω μ H) {j n i : Nat} (hj : Is ω j 11 n) (hi : j + 182 = i) (hdg : decode cc pc = .ok (.getfield 84, 3))
    (kk : W p l e R s m args below meth c H locs cells slots Q (F0 m (pc + 3) ls (.ref (wB ω + i) :: rest))) : W p l e R s m args below meth c H locs cells slots Q (F0 m pc ls (.ref (wB ω + j) :: rest)) :=
  h_getr C hH hj.1 hj.2.1 (by decide) rfl (show 12 < 17 by decide) rfl (by decide) (hj.2.2 _) hi wd_486 hdg kk
theorem g_487 (C : Cx ω p s m args c cc nL RX11) (hH : Hd ω μ H) {j n i : Nat} (hj : Is ω j 11 n) (hi : j + 185 = i) (hdg : decode cc pc = .ok (.getfield 91, 3))
    (kk : W p l e R s m args below meth c H locs cells slots Q (F0 m (pc + 3) ls (.ref (wB ω + i) :: rest))) : W p l e R s m args below meth c H locs cells slots Q (F0 m pc ls (.ref (wB ω + j) :: rest)) :=
  h_getr C hH hj.1 hj.2.1 (by decide) rfl (show 13 < 17 by decide) rfl (by decide) (hj.2.2 _) hi wd_487 hdg kk
theorem g_488 (C : Cx ω p s m args c cc nL RX11) (hH : Hd ω μ H) {j n i : Nat} (hj : Is ω j 11 n) (hi : j + 189 = i) (hdg : decode cc pc = .ok (.getfield 95, 3))
    (kk : W p l e R s m args below meth c H locs cells slots Q (F0 m (pc + 3) ls (.ref (wB ω + i) :: rest))) : W p l e R s m args below meth c H locs cells slots Q (F0 m pc ls (.ref (wB ω + j) :: rest)) :=
  h_getr C hH hj.1 hj.2.1 (by decide) rfl (show 14 < 17 by decide) rfl (by decide) (hj.2.2 _) hi wd_488 hdg kk
theorem g_489 (C : Cx ω p s m args c cc nL RX11) (hH : Hd ω μ H) {j n : Nat} (hj : Is ω j 11 n) (hdg : decode cc pc = .ok (.getfield 99, 3))
    (kk : W p l e R s m args below meth c H locs cells slots Q (F0 m (pc + 3) ls (.int (μ.1 j 15) :: rest))) : W p l e R s m args below meth c H locs cells slots Q (F0 m pc ls (.ref (wB ω + j) :: rest)) :=
  h_geti C hH hj.1 hj.2.1 (by decide) rfl (show 15 < 17 by decide) rfl rfl wd_489 hdg kk
theorem p_489 (C : Cx ω p s m args c cc nL RX11) (hH : Hd ω μ H) (hS : FS ω s H locs) {j n : Nat} {x : Int32} (hj : Is ω j 11 n) (hdg : decode cc pc = .ok (.putfield 99, 3))
    (kk : ∀ (H1 : Heap) (locs1 : List Loc), Hd ω (upI μ j 15 x) H1 → FS ω s H1 locs1 → W p l e R s m args below meth c H1 locs1 cells slots Q (F0 m (pc + 3) ls rest)) : W p l e R s m args below meth c H locs cells slots Q (F0 m pc ls (.int x :: .ref (wB ω + j) :: rest)) :=
  h_puti (ty := .int) C hH hS hj.1 hj.2.1 (by decide) rfl (show 15 < 17 by decide) rfl rfl wd_489 rfl rfl rfl hdg kk
theorem g_490 (C : Cx ω p s m args c cc nL RX11) (hH : Hd ω μ H) {j n : Nat} (hj : Is ω j 11 n) (hdg : decode cc pc = .ok (.getfield 102, 3))
    (kk : W p l e R s m args below meth c H locs cells slots Q (F0 m (pc + 3) ls (.int (μ.1 j 16) :: rest))) : W p l e R s m args below meth c H locs cells slots Q (F0 m pc ls (.ref (wB ω + j) :: rest)) :=
  h_geti C hH hj.1 hj.2.1 (by decide) rfl (show 16 < 17 by decide) rfl rfl wd_490 hdg kk
theorem p_490 (C : Cx ω p s m args c cc nL RX11) (hH : Hd ω μ H) (hS : FS ω s H locs) {j n : Nat} {x : Int32} (hj : Is ω j 11 n) (hdg : decode cc pc = .ok (.putfield 102, 3))
    (kk : ∀ (H1 : Heap) (locs1 : List Loc), Hd ω (upI μ j 16 x) H1 → FS ω s H1 locs1 → W p l e R s m args below meth c H1 locs1 cells slots Q (F0 m (pc + 3) ls rest)) : W p l e R s m args below meth c H locs cells slots Q (F0 m pc ls (.int x :: .ref (wB ω + j) :: rest)) :=
  h_puti (ty := .int) C hH hS hj.1 hj.2.1 (by decide) rfl (show 16 < 17 by decide) rfl rfl wd_490 rfl rfl rfl hdg kk
theorem g_1188 (C : Cx ω p s m args c cc nL RX12) (hH : Hd ω μ H) {j n i : Nat} (hj : Is ω j 12 n) (hi : j + 1 = i) (hdg : decode cc pc = .ok (.getfield 13, 3))
    (kk : W p l e R s m args below meth c H locs cells slots Q (F0 m (pc + 3) ls (.ref (wB ω + i) :: rest))) : W p l e R s m args below meth c H locs cells slots Q (F0 m pc ls (.ref (wB ω + j) :: rest)) :=
  h_getr C hH hj.1 hj.2.1 (by decide) rfl (show 1 < 69 by decide) rfl (by decide) (hj.2.2 _) hi wd_1188 hdg kk
theorem g_1189 (C : Cx ω p s m args c cc nL RX12) (hH : Hd ω μ H) {j n : Nat} (hj : Is ω j 12 n) (hdg : decode cc pc = .ok (.getfield 178, 3))
    (kk : W p l e R s m args below meth c H locs cells slots Q (F0 m (pc + 3) ls (.int (μ.1 j 2) :: rest))) : W p l e R s m args below meth c H locs cells slots Q (F0 m pc ls (.ref (wB ω + j) :: rest)) :=
  h_geti C hH hj.1 hj.2.1 (by decide) rfl (show 2 < 69 by decide) rfl rfl wd_1189 hdg kk
theorem p_1189 (C : Cx ω p s m args c cc nL RX12) (hH : Hd ω μ H) (hS : FS ω s H locs) {j n : Nat} {x : Int32} (hj : Is ω j 12 n) (hdg : decode cc pc = .ok (.putfield 178, 3))
    (kk : ∀ (H1 : Heap) (locs1 : List Loc), Hd ω (upI μ j 2 x) H1 → FS ω s H1 locs1 → W p l e R s m args below meth c H1 locs1 cells slots Q (F0 m (pc + 3) ls rest)) : W p l e R s m args below meth c H locs cells slots Q (F0 m pc ls (.int x :: .ref (wB ω + j) :: rest)) :=
  h_puti (ty := .int) C hH hS hj.1 hj.2.1 (by decide) rfl (show 2 < 69 by decide) rfl rfl wd_1189 rfl rfl rfl hdg kk
theorem g_1190 (C : Cx ω p s m args c cc nL RX12) (hH : Hd ω μ H) {j n i : Nat} (hj : Is ω j 12 n) (hi : j + 2 = i) (hdg : decode cc pc = .ok (.getfield 17, 3))
    (kk : W p l e R s m args below meth c H locs cells slots Q (F0 m (pc + 3) ls (.ref (wB ω + i) :: rest))) : W p l e R s m args below meth c H locs cells slots Q (F0 m pc ls (.ref (wB ω + j) :: rest)) :=
  h_getr C hH hj.1 hj.2.1 (by decide) rfl (show 3 < 69 by decide) rfl (by decide) (hj.2.2 _) hi wd_1190 hdg kk
theorem g_1191 (C : Cx ω p s m args c cc nL RX12) (hH : Hd ω μ H) {j n : Nat} (hj : Is ω j 12 n) (hdg : decode cc pc = .ok (.getfield 184, 3))
    (kk : W p l e R s m args below meth c H locs cells slots Q (F0 m (pc + 3) ls (.int (μ.1 j 4) :: rest))) : W p l e R s m args below meth c H locs cells slots Q (F0 m pc ls (.ref (wB ω + j) :: rest)) :=
  h_geti C hH hj.1 hj.2.1 (by decide) rfl (show 4 < 69 by decide) rfl rfl wd_1191 hdg kk
theorem p_1191 (C : Cx ω p s m args c cc nL RX12) (hH : Hd ω μ H) (hS : FS ω s H locs) {j n : Nat} {x : Int32} (hj : Is ω j 12 n) (hdg : decode cc pc = .ok (.putfield 184, 3))
    (kk : ∀ (H1 : Heap) (locs1 : List Loc), Hd ω (upI μ j 4 x) H1 → FS ω s H1 locs1 → W p l e R s m args below meth c H1 locs1 cells slots Q (F0 m (pc + 3) ls rest)) : W p l e R s m args below meth c H locs cells slots Q (F0 m pc ls (.int x :: .ref (wB ω + j) :: rest)) :=
  h_puti (ty := .int) C hH hS hj.1 hj.2.1 (by decide) rfl (show 4 < 69 by decide) rfl rfl wd_1191 rfl rfl rfl hdg kk
theorem g_1192 (C : Cx ω p s m args c cc nL RX12) (hH : Hd ω μ H) {j n i : Nat} (hj : Is ω j 12 n) (hi : j + 3 = i) (hdg : decode cc pc = .ok (.getfield 20, 3))
    (kk : W p l e R s m args below meth c H locs cells slots Q (F0 m (pc + 3) ls (.ref (wB ω + i) :: rest))) : W p l e R s m args below meth c H locs cells slots Q (F0 m pc ls (.ref (wB ω + j) :: rest)) :=
  h_getr C hH hj.1 hj.2.1 (by decide) rfl (show 5 < 69 by decide) rfl (by decide) (hj.2.2 _) hi wd_1192 hdg kk
theorem g_1193 (C : Cx ω p s m args c cc nL RX12) (hH : Hd ω μ H) {j n i : Nat} (hj : Is ω j 12 n) (hi : j + 4 = i) (hdg : decode cc pc = .ok (.getfield 24, 3))
    (kk : W p l e R s m args below meth c H locs cells slots Q (F0 m (pc + 3) ls (.ref (wB ω + i) :: rest))) : W p l e R s m args below meth c H locs cells slots Q (F0 m pc ls (.ref (wB ω + j) :: rest)) :=
  h_getr C hH hj.1 hj.2.1 (by decide) rfl (show 6 < 69 by decide) rfl (by decide) (hj.2.2 _) hi wd_1193 hdg kk
theorem g_1194 (C : Cx ω p s m args c cc nL RX12) (hH : Hd ω μ H) {j n i : Nat} (hj : Is ω j 12 n) (hi : j + 5 = i) (hdg : decode cc pc = .ok (.getfield 27, 3))
    (kk : W p l e R s m args below meth c H locs cells slots Q (F0 m (pc + 3) ls (.ref (wB ω + i) :: rest))) : W p l e R s m args below meth c H locs cells slots Q (F0 m pc ls (.ref (wB ω + j) :: rest)) :=
  h_getr C hH hj.1 hj.2.1 (by decide) rfl (show 7 < 69 by decide) rfl (by decide) (hj.2.2 _) hi wd_1194 hdg kk
theorem g_1195 (C : Cx ω p s m args c cc nL RX12) (hH : Hd ω μ H) {j n i : Nat} (hj : Is ω j 12 n) (hi : j + 6 = i) (hdg : decode cc pc = .ok (.getfield 30, 3))
    (kk : W p l e R s m args below meth c H locs cells slots Q (F0 m (pc + 3) ls (.ref (wB ω + i) :: rest))) : W p l e R s m args below meth c H locs cells slots Q (F0 m pc ls (.ref (wB ω + j) :: rest)) :=
  h_getr C hH hj.1 hj.2.1 (by decide) rfl (show 8 < 69 by decide) rfl (by decide) (hj.2.2 _) hi wd_1195 hdg kk
theorem g_1196 (C : Cx ω p s m args c cc nL RX12) (hH : Hd ω μ H) {j n i : Nat} (hj : Is ω j 12 n) (hi : j + 7 = i) (hdg : decode cc pc = .ok (.getfield 34, 3))
    (kk : W p l e R s m args below meth c H locs cells slots Q (F0 m (pc + 3) ls (.ref (wB ω + i) :: rest))) : W p l e R s m args below meth c H locs cells slots Q (F0 m pc ls (.ref (wB ω + j) :: rest)) :=
  h_getr C hH hj.1 hj.2.1 (by decide) rfl (show 9 < 69 by decide) rfl (by decide) (hj.2.2 _) hi wd_1196 hdg kk
theorem g_1197 (C : Cx ω p s m args c cc nL RX12) (hH : Hd ω μ H) {j n : Nat} (hj : Is ω j 12 n) (hdg : decode cc pc = .ok (.getfield 193, 3))
    (kk : W p l e R s m args below meth c H locs cells slots Q (F0 m (pc + 3) ls (.int (μ.1 j 10) :: rest))) : W p l e R s m args below meth c H locs cells slots Q (F0 m pc ls (.ref (wB ω + j) :: rest)) :=
  h_geti C hH hj.1 hj.2.1 (by decide) rfl (show 10 < 69 by decide) rfl rfl wd_1197 hdg kk
theorem p_1197 (C : Cx ω p s m args c cc nL RX12) (hH : Hd ω μ H) (hS : FS ω s H locs) {j n : Nat} {x : Int32} (hj : Is ω j 12 n) (hdg : decode cc pc = .ok (.putfield 193, 3))
    (kk : ∀ (H1 : Heap) (locs1 : List Loc), Hd ω (upI μ j 10 x) H1 → FS ω s H1 locs1 → W p l e R s m args below meth c H1 locs1 cells slots Q (F0 m (pc + 3) ls rest)) : W p l e R s m args below meth c H locs cells slots Q (F0 m pc ls (.int x :: .ref (wB ω + j) :: rest)) :=
  h_puti (ty := .int) C hH hS hj.1 hj.2.1 (by decide) rfl (show 10 < 69 by decide) rfl rfl wd_1197 rfl rfl rfl hdg kk
theorem g_1198 (C : Cx ω p s m args c cc nL RX12) (hH : Hd ω μ H) {j n : Nat} (hj : Is ω j 12 n) (hdg : decode cc pc = .ok (.getfield 218, 3))
    (kk : W p l e R s m args below meth c H locs cells slots Q (F0 m (pc + 3) ls (.int (μ.1 j 11) :: rest))) : W p l e R s m args below meth c H locs cells slots Q (F0 m pc ls (.ref (wB ω + j) :: rest)) :=
  h_geti C hH hj.1 hj.2.1 (by decide) rfl (show 11 < 69 by decide) rfl rfl wd_1198 hdg kk
theorem p_1198 (C : Cx ω p s m args c cc nL RX12) (hH : Hd ω μ H) (hS : FS ω s H locs) {j n : Nat} {x : Int32} (hj : Is ω j 12 n) (hdg : decode cc pc = .ok (.putfield 218, 3))
    (kk : ∀ (H1 : Heap) (locs1 : List Loc), Hd ω (upI μ j 11 x) H1 → FS ω s H1 locs1 → W p l e R s m args below meth c H1 locs1 cells slots Q (F0 m (pc + 3) ls rest)) : W p l e R s m args below meth c H locs cells slots Q (F0 m pc ls (.int x :: .ref (wB ω + j) :: rest)) :=
  h_puti (ty := .int) C hH hS hj.1 hj.2.1 (by decide) rfl (show 11 < 69 by decide) rfl rfl wd_1198 rfl rfl rfl hdg kk
theorem g_1199 (C : Cx ω p s m args c cc nL RX12) (hH : Hd ω μ H) {j n : Nat} (hj : Is ω j 12 n) (hdg : decode cc pc = .ok (.getfield 242, 3))
    (kk : W p l e R s m args below meth c H locs cells slots Q (F0 m (pc + 3) ls (.int (μ.1 j 12) :: rest))) : W p l e R s m args below meth c H locs cells slots Q (F0 m pc ls (.ref (wB ω + j) :: rest)) :=
  h_geti C hH hj.1 hj.2.1 (by decide) rfl (show 12 < 69 by decide) rfl rfl wd_1199 hdg kk
theorem p_1199 (C : Cx ω p s m args c cc nL RX12) (hH : Hd ω μ H) (hS : FS ω s H locs) {j n : Nat} {x : Int32} (hj : Is ω j 12 n) (hdg : decode cc pc = .ok (.putfield 242, 3))
    (kk : ∀ (H1 : Heap) (locs1 : List Loc), Hd ω (upI μ j 12 x) H1 → FS ω s H1 locs1 → W p l e R s m args below meth c H1 locs1 cells slots Q (F0 m (pc + 3) ls rest)) : W p l e R s m args below meth c H locs cells slots Q (F0 m pc ls (.int x :: .ref (wB ω + j) :: rest)) :=
  h_puti (ty := .int) C hH hS hj.1 hj.2.1 (by decide) rfl (show 12 < 69 by decide) rfl rfl wd_1199 rfl rfl rfl hdg kk
theorem g_1200 (C : Cx ω p s m args c cc nL RX12) (hH : Hd ω μ H) {j n : Nat} (hj : Is ω j 12 n) (hdg : decode cc pc = .ok (.getfield 215, 3))
    (kk : W p l e R s m args below meth c H locs cells slots Q (F0 m (pc + 3) ls (.int (μ.1 j 13) :: rest))) : W p l e R s m args below meth c H locs cells slots Q (F0 m pc ls (.ref (wB ω + j) :: rest)) :=
  h_geti C hH hj.1 hj.2.1 (by decide) rfl (show 13 < 69 by decide) rfl rfl wd_1200 hdg kk
theorem p_1200 (C : Cx ω p s m args c cc nL RX12) (hH : Hd ω μ H) (hS : FS ω s H locs) {j n : Nat} {x : Int32} (hj : Is ω j 12 n) (hdg : decode cc pc = .ok (.putfield 215, 3))
    (kk : ∀ (H1 : Heap) (locs1 : List Loc), Hd ω (upI μ j 13 x) H1 → FS ω s H1 locs1 → W p l e R s m args below meth c H1 locs1 cells slots Q (F0 m (pc + 3) ls rest)) : W p l e R s m args below meth c H locs cells slots Q (F0 m pc ls (.int x :: .ref (wB ω + j) :: rest)) :=
  h_puti (ty := .int) C hH hS hj.1 hj.2.1 (by decide) rfl (show 13 < 69 by decide) rfl rfl wd_1200 rfl rfl rfl hdg kk
theorem g_1201 (C : Cx ω p s m args c cc nL RX12) (hH : Hd ω μ H) {j n : Nat} (hj : Is ω j 12 n) (hdg : decode cc pc = .ok (.getfield 221, 3))
    (kk : W p l e R s m args below meth c H locs cells slots Q (F0 m (pc + 3) ls (.int (μ.1 j 14) :: rest))) : W p l e R s m args below meth c H locs cells slots Q (F0 m pc ls (.ref (wB ω + j) :: rest)) :=
  h_geti C hH hj.1 hj.2.1 (by decide) rfl (show 14 < 69 by decide) rfl rfl wd_1201 hdg kk
theorem p_1201 (C : Cx ω p s m args c cc nL RX12) (hH : Hd ω μ H) (hS : FS ω s H locs) {j n : Nat} {x : Int32} (hj : Is ω j 12 n) (hdg : decode cc pc = .ok (.putfield 221, 3))
    (kk : ∀ (H1 : Heap) (locs1 : List Loc), Hd ω (upI μ j 14 x) H1 → FS ω s H1 locs1 → W p l e R s m args below meth c H1 locs1 cells slots Q (F0 m (pc + 3) ls rest)) : W p l e R s m args below meth c H locs cells slots Q (F0 m pc ls (.int x :: .ref (wB ω + j) :: rest)) :=
  h_puti (ty := .int) C hH hS hj.1 hj.2.1 (by decide) rfl (show 14 < 69 by decide) rfl rfl wd_1201 rfl rfl rfl hdg kk
theorem g_1202 (C : Cx ω p s m args c cc nL RX12) (hH : Hd ω μ H) {j n : Nat} (hj : Is ω j 12 n) (hdg : decode cc pc = .ok (.getfield 224, 3))
    (kk : W p l e R s m args below meth c H locs cells slots Q (F0 m (pc + 3) ls (.int (μ.1 j 15) :: rest))) : W p l e R s m args below meth c H locs cells slots Q (F0 m pc ls (.ref (wB ω + j) :: rest)) :=
  h_geti C hH hj.1 hj.2.1 (by decide) rfl (show 15 < 69 by decide) rfl rfl wd_1202 hdg kk
theorem p_1202 (C : Cx ω p s m args c cc nL RX12) (hH : Hd ω μ H) (hS : FS ω s H locs) {j n : Nat} {x : Int32} (hj : Is ω j 12 n) (hdg : decode cc pc = .ok (.putfield 224, 3))
    (kk : ∀ (H1 : Heap) (locs1 : List Loc), Hd ω (upI μ j 15 x) H1 → FS ω s H1 locs1 → W p l e R s m args below meth c H1 locs1 cells slots Q (F0 m (pc + 3) ls rest)) : W p l e R s m args below meth c H locs cells slots Q (F0 m pc ls (.int x :: .ref (wB ω + j) :: rest)) :=
  h_puti (ty := .int) C hH hS hj.1 hj.2.1 (by decide) rfl (show 15 < 69 by decide) rfl rfl wd_1202 rfl rfl rfl hdg kk
theorem g_1203 (C : Cx ω p s m args c cc nL RX12) (hH : Hd ω μ H) {j n : Nat} (hj : Is ω j 12 n) (hdg : decode cc pc = .ok (.getfield 227, 3))
    (kk : W p l e R s m args below meth c H locs cells slots Q (F0 m (pc + 3) ls (.int (μ.1 j 16) :: rest))) : W p l e R s m args below meth c H locs cells slots Q (F0 m pc ls (.ref (wB ω + j) :: rest)) :=
  h_geti C hH hj.1 hj.2.1 (by decide) rfl (show 16 < 69 by decide) rfl rfl wd_1203 hdg kk
theorem p_1203 (C : Cx ω p s m args c cc nL RX12) (hH : Hd ω μ H) (hS : FS ω s H locs) {j n : Nat} {x : Int32} (hj : Is ω j 12 n) (hdg : decode cc pc = .ok (.putfield 227, 3))
    (kk : ∀ (H1 : Heap) (locs1 : List Loc), Hd ω (upI μ j 16 x) H1 → FS ω s H1 locs1 → W p l e R s m args below meth c H1 locs1 cells slots Q (F0 m (pc + 3) ls rest)) : W p l e R s m args below meth c H locs cells slots Q (F0 m pc ls (.int x :: .ref (wB ω + j) :: rest)) :=
  h_puti (ty := .int) C hH hS hj.1 hj.2.1 (by decide) rfl (show 16 < 69 by decide) rfl rfl wd_1203 rfl rfl rfl hdg kk
theorem g_1204 (C : Cx ω p s m args c cc nL RX12) (hH : Hd ω μ H) {j n : Nat} (hj : Is ω j 12 n) (hdg : decode cc pc = .ok (.getfield 37, 3))
    (kk : W p l e R s m args below meth c H locs cells slots Q (F0 m (pc + 3) ls (.int (μ.1 j 17) :: rest))) : W p l e R s m args below meth c H locs cells slots Q (F0 m pc ls (.ref (wB ω + j) :: rest)) :=
  h_geti C hH hj.1 hj.2.1 (by decide) rfl (show 17 < 69 by decide) rfl rfl wd_1204 hdg kk
theorem p_1204 (C : Cx ω p s m args c cc nL RX12) (hH : Hd ω μ H) (hS : FS ω s H locs) {j n : Nat} {x : Int32} (hj : Is ω j 12 n) (hdg : decode cc pc = .ok (.putfield 37, 3))
    (kk : ∀ (H1 : Heap) (locs1 : List Loc), Hd ω (upI μ j 17 x) H1 → FS ω s H1 locs1 → W p l e R s m args below meth c H1 locs1 cells slots Q (F0 m (pc + 3) ls rest)) : W p l e R s m args below meth c H locs cells slots Q (F0 m pc ls (.int x :: .ref (wB ω + j) :: rest)) :=
  h_puti (ty := .int) C hH hS hj.1 hj.2.1 (by decide) rfl (show 17 < 69 by decide) rfl rfl wd_1204 rfl rfl rfl hdg kk
theorem g_1205 (C : Cx ω p s m args c cc nL RX12) (hH : Hd ω μ H) {j n : Nat} (hj : Is ω j 12 n) (hdg : decode cc pc = .ok (.getfield 245, 3))
    (kk : W p l e R s m args below meth c H locs cells slots Q (F0 m (pc + 3) ls (.int (μ.1 j 18) :: rest))) : W p l e R s m args below meth c H locs cells slots Q (F0 m pc ls (.ref (wB ω + j) :: rest)) :=
  h_geti C hH hj.1 hj.2.1 (by decide) rfl (show 18 < 69 by decide) rfl rfl wd_1205 hdg kk
theorem p_1205 (C : Cx ω p s m args c cc nL RX12) (hH : Hd ω μ H) (hS : FS ω s H locs) {j n : Nat} {x : Int32} (hj : Is ω j 12 n) (hdg : decode cc pc = .ok (.putfield 245, 3))
    (kk : ∀ (H1 : Heap) (locs1 : List Loc), Hd ω (upI μ j 18 x) H1 → FS ω s H1 locs1 → W p l e R s m args below meth c H1 locs1 cells slots Q (F0 m (pc + 3) ls rest)) : W p l e R s m args below meth c H locs cells slots Q (F0 m pc ls (.int x :: .ref (wB ω + j) :: rest)) :=
  h_puti (ty := .int) C hH hS hj.1 hj.2.1 (by decide) rfl (show 18 < 69 by decide) rfl rfl wd_1205 rfl rfl rfl hdg kk
theorem g_1206 (C : Cx ω p s m args c cc nL RX12) (hH : Hd ω μ H) {j n : Nat} (hj : Is ω j 12 n) (hdg : decode cc pc = .ok (.getfield 248, 3))
    (kk : W p l e R s m args below meth c H locs cells slots Q (F0 m (pc + 3) ls (.int (μ.1 j 19) :: rest))) : W p l e R s m args below meth c H locs cells slots Q (F0 m pc ls (.ref (wB ω + j) :: rest)) :=
  h_geti C hH hj.1 hj.2.1 (by decide) rfl (show 19 < 69 by decide) rfl rfl wd_1206 hdg kk
theorem p_1206 (C : Cx ω p s m args c cc nL RX12) (hH : Hd ω μ H) (hS : FS ω s H locs) {j n : Nat} {x : Int32} (hj : Is ω j 12 n) (hdg : decode cc pc = .ok (.putfield 248, 3))
    (kk : ∀ (H1 : Heap) (locs1 : List Loc), Hd ω (upI μ j 19 x) H1 → FS ω s H1 locs1 → W p l e R s m args below meth c H1 locs1 cells slots Q (F0 m (pc + 3) ls rest)) : W p l e R s m args below meth c H locs cells slots Q (F0 m pc ls (.int x :: .ref (wB ω + j) :: rest)) :=
  h_puti (ty := .int) C hH hS hj.1 hj.2.1 (by decide) rfl (show 19 < 69 by decide) rfl rfl wd_1206 rfl rfl rfl hdg kk
theorem g_1207 (C : Cx ω p s m args c cc nL RX12) (hH : Hd ω μ H) {j n i : Nat} (hj : Is ω j 12 n) (hi : j + 8 = i) (hdg : decode cc pc = .ok (.getfield 40, 3))
    (kk : W p l e R s m args below meth c H locs cells slots Q (F0 m (pc + 3) ls (.ref (wB ω + i) :: rest))) : W p l e R s m args below meth c H locs cells slots Q (F0 m pc ls (.ref (wB ω + j) :: rest)) :=
  h_getr C hH hj.1 hj.2.1 (by decide) rfl (show 20 < 69 by decide) rfl (by decide) (hj.2.2 _) hi wd_1207 hdg kk
theorem g_1208 (C : Cx ω p s m args c cc nL RX12) (hH : Hd ω μ H) {j n i : Nat} (hj : Is ω j 12 n) (hi : j + 9 = i) (hdg : decode cc pc = .ok (.getfield 43, 3))
    (kk : W p l e R s m args below meth c H locs cells slots Q (F0 m (pc + 3) ls (.ref (wB ω + i) :: rest))) : W p l e R s m args below meth c H locs cells slots Q (F0 m pc ls (.ref (wB ω + j) :: rest)) :=
  h_getr C hH hj.1 hj.2.1 (by decide) rfl (show 21 < 69 by decide) rfl (by decide) (hj.2.2 _) hi wd_1208 hdg kk
theorem g_1209 (C : Cx ω p s m args c cc nL RX12) (hH : Hd ω μ H) {j n i : Nat} (hj : Is ω j 12 n) (hi : j + 10 = i) (hdg : decode cc pc = .ok (.getfield 46, 3))
    (kk : W p l e R s m args below meth c H locs cells slots Q (F0 m (pc + 3) ls (.ref (wB ω + i) :: rest))) : W p l e R s m args below meth c H locs cells slots Q (F0 m pc ls (.ref (wB ω + j) :: rest)) :=
  h_getr C hH hj.1 hj.2.1 (by decide) rfl (show 22 < 69 by decide) rfl (by decide) (hj.2.2 _) hi wd_1209 hdg kk
theorem g_1210 (C : Cx ω p s m args c cc nL RX12) (hH : Hd ω μ H) {j n i : Nat} (hj : Is ω j 12 n) (hi : j + 11 = i) (hdg : decode cc pc = .ok (.getfield 49, 3))
    (kk : W p l e R s m args below meth c H locs cells slots Q (F0 m (pc + 3) ls (.ref (wB ω + i) :: rest))) : W p l e R s m args below meth c H locs cells slots Q (F0 m pc ls (.ref (wB ω + j) :: rest)) :=
  h_getr C hH hj.1 hj.2.1 (by decide) rfl (show 23 < 69 by decide) rfl (by decide) (hj.2.2 _) hi wd_1210 hdg kk
theorem g_1211 (C : Cx ω p s m args c cc nL RX12) (hH : Hd ω μ H) {j n i : Nat} (hj : Is ω j 12 n) (hi : j + 12 = i) (hdg : decode cc pc = .ok (.getfield 52, 3))
    (kk : W p l e R s m args below meth c H locs cells slots Q (F0 m (pc + 3) ls (.ref (wB ω + i) :: rest))) : W p l e R s m args below meth c H locs cells slots Q (F0 m pc ls (.ref (wB ω + j) :: rest)) :=
  h_getr C hH hj.1 hj.2.1 (by decide) rfl (show 24 < 69 by decide) rfl (by decide) (hj.2.2 _) hi wd_1211 hdg kk
theorem g_1212 (C : Cx ω p s m args c cc nL RX12) (hH : Hd ω μ H) {j n i : Nat} (hj : Is ω j 12 n) (hi : j + 13 = i) (hdg : decode cc pc = .ok (.getfield 55, 3))
    (kk : W p l e R s m args below meth c H locs cells slots Q (F0 m (pc + 3) ls (.ref (wB ω + i) :: rest))) : W p l e R s m args below meth c H locs cells slots Q (F0 m pc ls (.ref (wB ω + j) :: rest)) :=
  h_getr C hH hj.1 hj.2.1 (by decide) rfl (show 25 < 69 by decide) rfl (by decide) (hj.2.2 _) hi wd_1212 hdg kk
theorem g_1213 (C : Cx ω p s m args c cc nL RX12) (hH : Hd ω μ H) {j n i : Nat} (hj : Is ω j 12 n) (hi : j + 14 = i) (hdg : decode cc pc = .ok (.getfield 58, 3))
    (kk : W p l e R s m args below meth c H locs cells slots Q (F0 m (pc + 3) ls (.ref (wB ω + i) :: rest))) : W p l e R s m args below meth c H locs cells slots Q (F0 m pc ls (.ref (wB ω + j) :: rest)) :=
  h_getr C hH hj.1 hj.2.1 (by decide) rfl (show 26 < 69 by decide) rfl (by decide) (hj.2.2 _) hi wd_1213 hdg kk
theorem g_1214 (C : Cx ω p s m args c cc nL RX12) (hH : Hd ω μ H) {j n i : Nat} (hj : Is ω j 12 n) (hi : j + 15 = i) (hdg : decode cc pc = .ok (.getfield 61, 3))
    (kk : W p l e R s m args below meth c H locs cells slots Q (F0 m (pc + 3) ls (.ref (wB ω + i) :: rest))) : W p l e R s m args below meth c H locs cells slots Q (F0 m pc ls (.ref (wB ω + j) :: rest)) :=
  h_getr C hH hj.1 hj.2.1 (by decide) rfl (show 27 < 69 by decide) rfl (by decide) (hj.2.2 _) hi wd_1214 hdg kk
theorem g_1215 (C : Cx ω p s m args c cc nL RX12) (hH : Hd ω μ H) {j n i : Nat} (hj : Is ω j 12 n) (hi : j + 16 = i) (hdg : decode cc pc = .ok (.getfield 64, 3))
    (kk : W p l e R s m args below meth c H locs cells slots Q (F0 m (pc + 3) ls (.ref (wB ω + i) :: rest))) : W p l e R s m args below meth c H locs cells slots Q (F0 m pc ls (.ref (wB ω + j) :: rest)) :=
  h_getr C hH hj.1 hj.2.1 (by decide) rfl (show 28 < 69 by decide) rfl (by decide) (hj.2.2 _) hi wd_1215 hdg kk
theorem g_1216 (C : Cx ω p s m args c cc nL RX12) (hH : Hd ω μ H) {j n i : Nat} (hj : Is ω j 12 n) (hi : j + 17 = i) (hdg : decode cc pc = .ok (.getfield 67, 3))
    (kk : W p l e R s m args below meth c H locs cells slots Q (F0 m (pc + 3) ls (.ref (wB ω + i) :: rest))) : W p l e R s m args below meth c H locs cells slots Q (F0 m pc ls (.ref (wB ω + j) :: rest)) :=
  h_getr C hH hj.1 hj.2.1 (by decide) rfl (show 29 < 69 by decide) rfl (by decide) (hj.2.2 _) hi wd_1216 hdg kk
theorem g_1217 (C : Cx ω p s m args c cc nL RX12) (hH : Hd ω μ H) {j n i : Nat} (hj : Is ω j 12 n) (hi : j + 18 = i) (hdg : decode cc pc = .ok (.getfield 70, 3))
    (kk : W p l e R s m args below meth c H locs cells slots Q (F0 m (pc + 3) ls (.ref (wB ω + i) :: rest))) : W p l e R s m args below meth c H locs cells slots Q (F0 m pc ls (.ref (wB ω + j) :: rest)) :=
  h_getr C hH hj.1 hj.2.1 (by decide) rfl (show 30 < 69 by decide) rfl (by decide) (hj.2.2 _) hi wd_1217 hdg kk
theorem g_1218 (C : Cx ω p s m args c cc nL RX12) (hH : Hd ω μ H) {j n i : Nat} (hj : Is ω j 12 n) (hi : j + 19 = i) (hdg : decode cc pc = .ok (.getfield 73, 3))
    (kk : W p l e R s m args below meth c H locs cells slots Q (F0 m (pc + 3) ls (.ref (wB ω + i) :: rest))) : W p l e R s m args below meth c H locs cells slots Q (F0 m pc ls (.ref (wB ω + j) :: rest)) :=
  h_getr C hH hj.1 hj.2.1 (by decide) rfl (show 31 < 69 by decide) rfl (by decide) (hj.2.2 _) hi wd_1218 hdg kk
theorem g_1219 (C : Cx ω p s m args c cc nL RX12) (hH : Hd ω μ H) {j n i : Nat} (hj : Is ω j 12 n) (hi : j + 20 = i) (hdg : decode cc pc = .ok (.getfield 76, 3))
    (kk : W p l e R s m args below meth c H locs cells slots Q (F0 m (pc + 3) ls (.ref (wB ω + i) :: rest))) : W p l e R s m args below meth c H locs cells slots Q (F0 m pc ls (.ref (wB ω + j) :: rest)) :=
  h_getr C hH hj.1 hj.2.1 (by decide) rfl (show 32 < 69 by decide) rfl (by decide) (hj.2.2 _) hi wd_1219 hdg kk
theorem g_1220 (C : Cx ω p s m args c cc nL RX12) (hH : Hd ω μ H) {j n : Nat} (hj : Is ω j 12 n) (hdg : decode cc pc = .ok (.getfield 251, 3))
    (kk : W p l e R s m args below meth c H locs cells slots Q (F0 m (pc + 3) ls (.int (μ.1 j 33) :: rest))) : W p l e R s m args below meth c H locs cells slots Q (F0 m pc ls (.ref (wB ω + j) :: rest)) :=
  h_geti C hH hj.1 hj.2.1 (by decide) rfl (show 33 < 69 by decide) rfl rfl wd_1220 hdg kk
theorem p_1220 (C : Cx ω p s m args c cc nL RX12) (hH : Hd ω μ H) (hS : FS ω s H locs) {j n : Nat} {x : Int32} (hj : Is ω j 12 n) (hdg : decode cc pc = .ok (.putfield 251, 3))
    (kk : ∀ (H1 : Heap) (locs1 : List Loc), Hd ω (upI μ j 33 x) H1 → FS ω s H1 locs1 → W p l e R s m args below meth c H1 locs1 cells slots Q (F0 m (pc + 3) ls rest)) : W p l e R s m args below meth c H locs cells slots Q (F0 m pc ls (.int x :: .ref (wB ω + j) :: rest)) :=
  h_puti (ty := .int) C hH hS hj.1 hj.2.1 (by decide) rfl (show 33 < 69 by decide) rfl rfl wd_1220 rfl rfl rfl hdg kk
theorem g_1221 (C : Cx ω p s m args c cc nL RX12) (hH : Hd ω μ H) {j n i : Nat} (hj : Is ω j 12 n) (hi : j + 21 = i) (hdg : decode cc pc = .ok (.getfield 79, 3))
    (kk : W p l e R s m args below meth c H locs cells slots Q (F0 m (pc + 3) ls (.ref (wB ω + i) :: rest))) : W p l e R s m args below meth c H locs cells slots Q (F0 m pc ls (.ref (wB ω + j) :: rest)) :=
  h_getr C hH hj.1 hj.2.1 (by decide) rfl (show 34 < 69 by decide) rfl (by decide) (hj.2.2 _) hi wd_1221 hdg kk
theorem g_1222 (C : Cx ω p s m args c cc nL RX12) (hH : Hd ω μ H) {j n i : Nat} (hj : Is ω j 12 n) (hi : j + 22 = i) (hdg : decode cc pc = .ok (.getfield 83, 3))
    (kk : W p l e R s m args below meth c H locs cells slots Q (F0 m (pc + 3) ls (.ref (wB ω + i) :: rest))) : W p l e R s m args below meth c H locs cells slots Q (F0 m pc ls (.ref (wB ω + j) :: rest)) :=
  h_getr C hH hj.1 hj.2.1 (by decide) rfl (show 35 < 69 by decide) rfl (by decide) (hj.2.2 _) hi wd_1222 hdg kk
theorem g_1223 (C : Cx ω p s m args c cc nL RX12) (hH : Hd ω μ H) {j n i : Nat} (hj : Is ω j 12 n) (hi : j + 23 = i) (hdg : decode cc pc = .ok (.getfield 86, 3))
    (kk : W p l e R s m args below meth c H locs cells slots Q (F0 m (pc + 3) ls (.ref (wB ω + i) :: rest))) : W p l e R s m args below meth c H locs cells slots Q (F0 m pc ls (.ref (wB ω + j) :: rest)) :=
  h_getr C hH hj.1 hj.2.1 (by decide) rfl (show 36 < 69 by decide) rfl (by decide) (hj.2.2 _) hi wd_1223 hdg kk
theorem g_1224 (C : Cx ω p s m args c cc nL RX12) (hH : Hd ω μ H) {j n i : Nat} (hj : Is ω j 12 n) (hi : j + 24 = i) (hdg : decode cc pc = .ok (.getfield 89, 3))
    (kk : W p l e R s m args below meth c H locs cells slots Q (F0 m (pc + 3) ls (.ref (wB ω + i) :: rest))) : W p l e R s m args below meth c H locs cells slots Q (F0 m pc ls (.ref (wB ω + j) :: rest)) :=
  h_getr C hH hj.1 hj.2.1 (by decide) rfl (show 37 < 69 by decide) rfl (by decide) (hj.2.2 _) hi wd_1224 hdg kk
theorem g_1225 (C : Cx ω p s m args c cc nL RX12) (hH : Hd ω μ H) {j n i : Nat} (hj : Is ω j 12 n) (hi : j + 25 = i) (hdg : decode cc pc = .ok (.getfield 92, 3))
    (kk : W p l e R s m args below meth c H locs cells slots Q (F0 m (pc + 3) ls (.ref (wB ω + i) :: rest))) : W p l e R s m args below meth c H locs cells slots Q (F0 m pc ls (.ref (wB ω + j) :: rest)) :=
  h_getr C hH hj.1 hj.2.1 (by decide) rfl (show 38 < 69 by decide) rfl (by decide) (hj.2.2 _) hi wd_1225 hdg kk
theorem g_1226 (C : Cx ω p s m args c cc nL RX12) (hH : Hd ω μ H) {j n : Nat} (hj : Is ω j 12 n) (hdg : decode cc pc = .ok (.getfield 254, 3))
    (kk : W p l e R s m args below meth c H locs cells slots Q (F0 m (pc + 3) ls (.int (μ.1 j 39) :: rest))) : W p l e R s m args below meth c H locs cells slots Q (F0 m pc ls (.ref (wB ω + j) :: rest)) :=
  h_geti C hH hj.1 hj.2.1 (by decide) rfl (show 39 < 69 by decide) rfl rfl wd_1226 hdg kk
theorem p_1226 (C : Cx ω p s m args c cc nL RX12) (hH : Hd ω μ H) (hS : FS ω s H locs) {j n : Nat} {x : Int32} (hj : Is ω j 12 n) (hdg : decode cc pc = .ok (.putfield 254, 3))
    (kk : ∀ (H1 : Heap) (locs1 : List Loc), Hd ω (upI μ j 39 x) H1 → FS ω s H1 locs1 → W p l e R s m args below meth c H1 locs1 cells slots Q (F0 m (pc + 3) ls rest)) : W p l e R s m args below meth c H locs cells slots Q (F0 m pc ls (.int x :: .ref (wB ω + j) :: rest)) :=
  h_puti (ty := .int) C hH hS hj.1 hj.2.1 (by decide) rfl (show 39 < 69 by decide) rfl rfl wd_1226 rfl rfl rfl hdg kk
theorem g_1227 (C : Cx ω p s m args c cc nL RX12) (hH : Hd ω μ H) {j n i : Nat} (hj : Is ω j 12 n) (hi : j + 26 = i) (hdg : decode cc pc = .ok (.getfield 95, 3))
    (kk : W p l e R s m args below meth c H locs cells slots Q (F0 m (pc + 3) ls (.ref (wB ω + i) :: rest))) : W p l e R s m args below meth c H locs cells slots Q (F0 m pc ls (.ref (wB ω + j) :: rest)) :=
  h_getr C hH hj.1 hj.2.1 (by decide) rfl (show 40 < 69 by decide) rfl (by decide) (hj.2.2 _) hi wd_1227 hdg kk
theorem g_1228 (C : Cx ω p s m args c cc nL RX12) (hH : Hd ω μ H) {j n i : Nat} (hj : Is ω j 12 n) (hi : j + 27 = i) (hdg : decode cc pc = .ok (.getfield 98, 3))
    (kk : W p l e R s m args below meth c H locs cells slots Q (F0 m (pc + 3) ls (.ref (wB ω + i) :: rest))) : W p l e R s m args below meth c H locs cells slots Q (F0 m pc ls (.ref (wB ω + j) :: rest)) :=
  h_getr C hH hj.1 hj.2.1 (by decide) rfl (show 41 < 69 by decide) rfl (by decide) (hj.2.2 _) hi wd_1228 hdg kk
theorem g_1229 (C : Cx ω p s m args c cc nL RX12) (hH : Hd ω μ H) {j n i : Nat} (hj : Is ω j 12 n) (hi : j + 28 = i) (hdg : decode cc pc = .ok (.getfield 101, 3))
    (kk : W p l e R s m args below meth c H locs cells slots Q (F0 m (pc + 3) ls (.ref (wB ω + i) :: rest))) : W p l e R s m args below meth c H locs cells slots Q (F0 m pc ls (.ref (wB ω + j) :: rest)) :=
  h_getr C hH hj.1 hj.2.1 (by decide) rfl (show 42 < 69 by decide) rfl (by decide) (hj.2.2 _) hi wd_1229 hdg kk
theorem g_1230 (C : Cx ω p s m args c cc nL RX12) (hH : Hd ω μ H) {j n : Nat} (hj : Is ω j 12 n) (hdg : decode cc pc = .ok (.getfield 292, 3))
    (kk : W p l e R s m args below meth c H locs cells slots Q (F0 m (pc + 3) ls (.int (μ.1 j 43) :: rest))) : W p l e R s m args below meth c H locs cells slots Q (F0 m pc ls (.ref (wB ω + j) :: rest)) :=
  h_geti C hH hj.1 hj.2.1 (by decide) rfl (show 43 < 69 by decide) rfl rfl wd_1230 hdg kk
theorem p_1230 (C : Cx ω p s m args c cc nL RX12) (hH : Hd ω μ H) (hS : FS ω s H locs) {j n : Nat} {x : Int32} (hj : Is ω j 12 n) (hdg : decode cc pc = .ok (.putfield 292, 3))
    (kk : ∀ (H1 : Heap) (locs1 : List Loc), Hd ω (upI μ j 43 x) H1 → FS ω s H1 locs1 → W p l e R s m args below meth c H1 locs1 cells slots Q (F0 m (pc + 3) ls rest)) : W p l e R s m args below meth c H locs cells slots Q (F0 m pc ls (.int x :: .ref (wB ω + j) :: rest)) :=
  h_puti (ty := .int) C hH hS hj.1 hj.2.1 (by decide) rfl (show 43 < 69 by decide) rfl rfl wd_1230 rfl rfl rfl hdg kk
theorem g_1231 (C : Cx ω p s m args c cc nL RX12) (hH : Hd ω μ H) {j n i : Nat} (hj : Is ω j 12 n) (hi : j + 29 = i) (hdg : decode cc pc = .ok (.getfield 104, 3))
    (kk : W p l e R s m args below meth c H locs cells slots Q (F0 m (pc + 3) ls (.ref (wB ω + i) :: rest))) : W p l e R s m args below meth c H locs cells slots Q (F0 m pc ls (.ref (wB ω + j) :: rest)) :=
  h_getr C hH hj.1 hj.2.1 (by decide) rfl (show 44 < 69 by decide) rfl (by decide) (hj.2.2 _) hi wd_1231 hdg kk
theorem g_1232 (C : Cx ω p s m args c cc nL RX12) (hH : Hd ω μ H) {j n i : Nat} (hj : Is ω j 12 n) (hi : j + 30 = i) (hdg : decode cc pc = .ok (.getfield 107, 3))
    (kk : W p l e R s m args below meth c H locs cells slots Q (F0 m (pc + 3) ls (.ref (wB ω + i) :: rest))) : W p l e R s m args below meth c H locs cells slots Q (F0 m pc ls (.ref (wB ω + j) :: rest)) :=
  h_getr C hH hj.1 hj.2.1 (by decide) rfl (show 45 < 69 by decide) rfl (by decide) (hj.2.2 _) hi wd_1232 hdg kk
theorem g_1233 (C : Cx ω p s m args c cc nL RX12) (hH : Hd ω μ H) {j n : Nat} (hj : Is ω j 12 n) (hdg : decode cc pc = .ok (.getfield 305, 3))
    (kk : W p l e R s m args below meth c H locs cells slots Q (F0 m (pc + 3) ls (.int (μ.1 j 46) :: rest))) : W p l e R s m args below meth c H locs cells slots Q (F0 m pc ls (.ref (wB ω + j) :: rest)) :=
  h_geti C hH hj.1 hj.2.1 (by decide) rfl (show 46 < 69 by decide) rfl rfl wd_1233 hdg kk
theorem p_1233 (C : Cx ω p s m args c cc nL RX12) (hH : Hd ω μ H) (hS : FS ω s H locs) {j n : Nat} {x : Int32} (hj : Is ω j 12 n) (hz : narrow .boolean (.int x) = .int x) (hz2 : fits .boolean (.int x) = true) (hdg : decode cc pc = .ok (.putfield 305, 3))
    (kk : ∀ (H1 : Heap) (locs1 : List Loc), Hd ω (upI μ j 46 x) H1 → FS ω s H1 locs1 → W p l e R s m args below meth c H1 locs1 cells slots Q (F0 m (pc + 3) ls rest)) : W p l e R s m args below meth c H locs cells slots Q (F0 m pc ls (.int x :: .ref (wB ω + j) :: rest)) :=
  h_puti (ty := .boolean) C hH hS hj.1 hj.2.1 (by decide) rfl (show 46 < 69 by decide) rfl rfl wd_1233 rfl hz hz2 hdg kk
theorem g_1234 (C : Cx ω p s m args c cc nL RX12) (hH : Hd ω μ H) {j n i : Nat} (hj : Is ω j 12 n) (hi : j + 31 = i) (hdg : decode cc pc = .ok (.getfield 110, 3))
    (kk : W p l e R s m args below meth c H locs cells slots Q (F0 m (pc + 3) ls (.ref (wB ω + i) :: rest))) : W p l e R s m args below meth c H locs cells slots Q (F0 m pc ls (.ref (wB ω + j) :: rest)) :=
  h_getr C hH hj.1 hj.2.1 (by decide) rfl (show 47 < 69 by decide) rfl (by decide) (hj.2.2 _) hi wd_1234 hdg kk
theorem g_1235 (C : Cx ω p s m args c cc nL RX12) (hH : Hd ω μ H) {j n i : Nat} (hj : Is ω j 12 n) (hi : j + 32 = i) (hdg : decode cc pc = .ok (.getfield 113, 3))
    (kk : W p l e R s m args below meth c H locs cells slots Q (F0 m (pc + 3) ls (.ref (wB ω + i) :: rest))) : W p l e R s m args below meth c H locs cells slots Q (F0 m pc ls (.ref (wB ω + j) :: rest)) :=
  h_getr C hH hj.1 hj.2.1 (by decide) rfl (show 48 < 69 by decide) rfl (by decide) (hj.2.2 _) hi wd_1235 hdg kk
theorem g_1236 (C : Cx ω p s m args c cc nL RX12) (hH : Hd ω μ H) {j n : Nat} (hj : Is ω j 12 n) (hdg : decode cc pc = .ok (.getfield 317, 3))
    (kk : W p l e R s m args below meth c H locs cells slots Q (F0 m (pc + 3) ls (.int (μ.1 j 49) :: rest))) : W p l e R s m args below meth c H locs cells slots Q (F0 m pc ls (.ref (wB ω + j) :: rest)) :=
  h_geti C hH hj.1 hj.2.1 (by decide) rfl (show 49 < 69 by decide) rfl rfl wd_1236 hdg kk
theorem p_1236 (C : Cx ω p s m args c cc nL RX12) (hH : Hd ω μ H) (hS : FS ω s H locs) {j n : Nat} {x : Int32} (hj : Is ω j 12 n) (hdg : decode cc pc = .ok (.putfield 317, 3))
    (kk : ∀ (H1 : Heap) (locs1 : List Loc), Hd ω (upI μ j 49 x) H1 → FS ω s H1 locs1 → W p l e R s m args below meth c H1 locs1 cells slots Q (F0 m (pc + 3) ls rest)) : W p l e R s m args below meth c H locs cells slots Q (F0 m pc ls (.int x :: .ref (wB ω + j) :: rest)) :=
  h_puti (ty := .int) C hH hS hj.1 hj.2.1 (by decide) rfl (show 49 < 69 by decide) rfl rfl wd_1236 rfl rfl rfl hdg kk
theorem g_1237 (C : Cx ω p s m args c cc nL RX12) (hH : Hd ω μ H) {j n : Nat} (hj : Is ω j 12 n) (hdg : decode cc pc = .ok (.getfield 320, 3))
    (kk : W p l e R s m args below meth c H locs cells slots Q (F0 m (pc + 3) ls (.int (μ.1 j 50) :: rest))) : W p l e R s m args below meth c H locs cells slots Q (F0 m pc ls (.ref (wB ω + j) :: rest)) :=
  h_geti C hH hj.1 hj.2.1 (by decide) rfl (show 50 < 69 by decide) rfl rfl wd_1237 hdg kk
theorem p_1237 (C : Cx ω p s m args c cc nL RX12) (hH : Hd ω μ H) (hS : FS ω s H locs) {j n : Nat} {x : Int32} (hj : Is ω j 12 n) (hz : narrow .boolean (.int x) = .int x) (hz2 : fits .boolean (.int x) = true) (hdg : decode cc pc = .ok (.putfield 320, 3))
    (kk : ∀ (H1 : Heap) (locs1 : List Loc), Hd ω (upI μ j 50 x) H1 → FS ω s H1 locs1 → W p l e R s m args below meth c H1 locs1 cells slots Q (F0 m (pc + 3) ls rest)) : W p l e R s m args below meth c H locs cells slots Q (F0 m pc ls (.int x :: .ref (wB ω + j) :: rest)) :=
  h_puti (ty := .boolean) C hH hS hj.1 hj.2.1 (by decide) rfl (show 50 < 69 by decide) rfl rfl wd_1237 rfl hz hz2 hdg kk
theorem g_1238 (C : Cx ω p s m args c cc nL RX12) (hH : Hd ω μ H) {j n i : Nat} (hj : Is ω j 12 n) (hi : j + 33 = i) (hdg : decode cc pc = .ok (.getfield 116, 3))
    (kk : W p l e R s m args below meth c H locs cells slots Q (F0 m (pc + 3) ls (.ref (wB ω + i) :: rest))) : W p l e R s m args below meth c H locs cells slots Q (F0 m pc ls (.ref (wB ω + j) :: rest)) :=
  h_getr C hH hj.1 hj.2.1 (by decide) rfl (show 51 < 69 by decide) rfl (by decide) (hj.2.2 _) hi wd_1238 hdg kk
theorem g_1239 (C : Cx ω p s m args c cc nL RX12) (hH : Hd ω μ H) {j n i : Nat} (hj : Is ω j 12 n) (hi : j + 34 = i) (hdg : decode cc pc = .ok (.getfield 119, 3))
    (kk : W p l e R s m args below meth c H locs cells slots Q (F0 m (pc + 3) ls (.ref (wB ω + i) :: rest))) : W p l e R s m args below meth c H locs cells slots Q (F0 m pc ls (.ref (wB ω + j) :: rest)) :=
  h_getr C hH hj.1 hj.2.1 (by decide) rfl (show 52 < 69 by decide) rfl (by decide) (hj.2.2 _) hi wd_1239 hdg kk
theorem g_1240 (C : Cx ω p s m args c cc nL RX12) (hH : Hd ω μ H) {j n : Nat} (hj : Is ω j 12 n) (hdg : decode cc pc = .ok (.getfield 260, 3))
    (kk : W p l e R s m args below meth c H locs cells slots Q (F0 m (pc + 3) ls (.int (μ.1 j 53) :: rest))) : W p l e R s m args below meth c H locs cells slots Q (F0 m pc ls (.ref (wB ω + j) :: rest)) :=
  h_geti C hH hj.1 hj.2.1 (by decide) rfl (show 53 < 69 by decide) rfl rfl wd_1240 hdg kk
theorem p_1240 (C : Cx ω p s m args c cc nL RX12) (hH : Hd ω μ H) (hS : FS ω s H locs) {j n : Nat} {x : Int32} (hj : Is ω j 12 n) (hdg : decode cc pc = .ok (.putfield 260, 3))
    (kk : ∀ (H1 : Heap) (locs1 : List Loc), Hd ω (upI μ j 53 x) H1 → FS ω s H1 locs1 → W p l e R s m args below meth c H1 locs1 cells slots Q (F0 m (pc + 3) ls rest)) : W p l e R s m args below meth c H locs cells slots Q (F0 m pc ls (.int x :: .ref (wB ω + j) :: rest)) :=
  h_puti (ty := .int) C hH hS hj.1 hj.2.1 (by decide) rfl (show 53 < 69 by decide) rfl rfl wd_1240 rfl rfl rfl hdg kk
theorem g_1241 (C : Cx ω p s m args c cc nL RX12) (hH : Hd ω μ H) {j n i : Nat} (hj : Is ω j 12 n) (hi : j + 35 = i) (hdg : decode cc pc = .ok (.getfield 122, 3))
    (kk : W p l e R s m args below meth c H locs cells slots Q (F0 m (pc + 3) ls (.ref (wB ω + i) :: rest))) : W p l e R s m args below meth c H locs cells slots Q (F0 m pc ls (.ref (wB ω + j) :: rest)) :=
  h_getr C hH hj.1 hj.2.1 (by decide) rfl (show 54 < 69 by decide) rfl (by decide) (hj.2.2 _) hi wd_1241 hdg kk
theorem g_1242 (C : Cx ω p s m args c cc nL RX12) (hH : Hd ω μ H) {j n i : Nat} (hj : Is ω j 12 n) (hi : j + 36 = i) (hdg : decode cc pc = .ok (.getfield 125, 3))
    (kk : W p l e R s m args below meth c H locs cells slots Q (F0 m (pc + 3) ls (.ref (wB ω + i) :: rest))) : W p l e R s m args below meth c H locs cells slots Q (F0 m pc ls (.ref (wB ω + j) :: rest)) :=
  h_getr C hH hj.1 hj.2.1 (by decide) rfl (show 55 < 69 by decide) rfl (by decide) (hj.2.2 _) hi wd_1242 hdg kk
theorem g_1243 (C : Cx ω p s m args c cc nL RX12) (hH : Hd ω μ H) {j n i : Nat} (hj : Is ω j 12 n) (hi : j + 37 = i) (hdg : decode cc pc = .ok (.getfield 128, 3))
    (kk : W p l e R s m args below meth c H locs cells slots Q (F0 m (pc + 3) ls (.ref (wB ω + i) :: rest))) : W p l e R s m args below meth c H locs cells slots Q (F0 m pc ls (.ref (wB ω + j) :: rest)) :=
  h_getr C hH hj.1 hj.2.1 (by decide) rfl (show 56 < 69 by decide) rfl (by decide) (hj.2.2 _) hi wd_1243 hdg kk
theorem g_1244 (C : Cx ω p s m args c cc nL RX12) (hH : Hd ω μ H) {j n i : Nat} (hj : Is ω j 12 n) (hi : j + 38 = i) (hdg : decode cc pc = .ok (.getfield 131, 3))
    (kk : W p l e R s m args below meth c H locs cells slots Q (F0 m (pc + 3) ls (.ref (wB ω + i) :: rest))) : W p l e R s m args below meth c H locs cells slots Q (F0 m pc ls (.ref (wB ω + j) :: rest)) :=
  h_getr C hH hj.1 hj.2.1 (by decide) rfl (show 57 < 69 by decide) rfl (by decide) (hj.2.2 _) hi wd_1244 hdg kk
theorem g_1245 (C : Cx ω p s m args c cc nL RX12) (hH : Hd ω μ H) {j n i : Nat} (hj : Is ω j 12 n) (hi : j + 39 = i) (hdg : decode cc pc = .ok (.getfield 134, 3))
    (kk : W p l e R s m args below meth c H locs cells slots Q (F0 m (pc + 3) ls (.ref (wB ω + i) :: rest))) : W p l e R s m args below meth c H locs cells slots Q (F0 m pc ls (.ref (wB ω + j) :: rest)) :=
  h_getr C hH hj.1 hj.2.1 (by decide) rfl (show 58 < 69 by decide) rfl (by decide) (hj.2.2 _) hi wd_1245 hdg kk
theorem g_1246 (C : Cx ω p s m args c cc nL RX12) (hH : Hd ω μ H) {j n i : Nat} (hj : Is ω j 12 n) (hi : j + 40 = i) (hdg : decode cc pc = .ok (.getfield 137, 3))
    (kk : W p l e R s m args below meth c H locs cells slots Q (F0 m (pc + 3) ls (.ref (wB ω + i) :: rest))) : W p l e R s m args below meth c H locs cells slots Q (F0 m pc ls (.ref (wB ω + j) :: rest)) :=
  h_getr C hH hj.1 hj.2.1 (by decide) rfl (show 59 < 69 by decide) rfl (by decide) (hj.2.2 _) hi wd_1246 hdg kk
theorem g_1247 (C : Cx ω p s m args c cc nL RX12) (hH : Hd ω μ H) {j n i : Nat} (hj : Is ω j 12 n) (hi : j + 41 = i) (hdg : decode cc pc = .ok (.getfield 140, 3))
    (kk : W p l e R s m args below meth c H locs cells slots Q (F0 m (pc + 3) ls (.ref (wB ω + i) :: rest))) : W p l e R s m args below meth c H locs cells slots Q (F0 m pc ls (.ref (wB ω + j) :: rest)) :=
  h_getr C hH hj.1 hj.2.1 (by decide) rfl (show 60 < 69 by decide) rfl (by decide) (hj.2.2 _) hi wd_1247 hdg kk
theorem g_1248 (C : Cx ω p s m args c cc nL RX12) (hH : Hd ω μ H) {j n i : Nat} (hj : Is ω j 12 n) (hi : j + 42 = i) (hdg : decode cc pc = .ok (.getfield 143, 3))
    (kk : W p l e R s m args below meth c H locs cells slots Q (F0 m (pc + 3) ls (.ref (wB ω + i) :: rest))) : W p l e R s m args below meth c H locs cells slots Q (F0 m pc ls (.ref (wB ω + j) :: rest)) :=
  h_getr C hH hj.1 hj.2.1 (by decide) rfl (show 61 < 69 by decide) rfl (by decide) (hj.2.2 _) hi wd_1248 hdg kk
theorem g_1249 (C : Cx ω p s m args c cc nL RX12) (hH : Hd ω μ H) {j n i : Nat} (hj : Is ω j 12 n) (hi : j + 43 = i) (hdg : decode cc pc = .ok (.getfield 146, 3))
    (kk : W p l e R s m args below meth c H locs cells slots Q (F0 m (pc + 3) ls (.ref (wB ω + i) :: rest))) : W p l e R s m args below meth c H locs cells slots Q (F0 m pc ls (.ref (wB ω + j) :: rest)) :=
  h_getr C hH hj.1 hj.2.1 (by decide) rfl (show 62 < 69 by decide) rfl (by decide) (hj.2.2 _) hi wd_1249 hdg kk
theorem g_1250 (C : Cx ω p s m args c cc nL RX12) (hH : Hd ω μ H) {j n : Nat} (hj : Is ω j 12 n) (hdg : decode cc pc = .ok (.getfield 263, 3))
    (kk : W p l e R s m args below meth c H locs cells slots Q (F0 m (pc + 3) ls (.int (μ.1 j 63) :: rest))) : W p l e R s m args below meth c H locs cells slots Q (F0 m pc ls (.ref (wB ω + j) :: rest)) :=
  h_geti C hH hj.1 hj.2.1 (by decide) rfl (show 63 < 69 by decide) rfl rfl wd_1250 hdg kk
theorem p_1250 (C : Cx ω p s m args c cc nL RX12) (hH : Hd ω μ H) (hS : FS ω s H locs) {j n : Nat} {x : Int32} (hj : Is ω j 12 n) (hdg : decode cc pc = .ok (.putfield 263, 3))
    (kk : ∀ (H1 : Heap) (locs1 : List Loc), Hd ω (upI μ j 63 x) H1 → FS ω s H1 locs1 → W p l e R s m args below meth c H1 locs1 cells slots Q (F0 m (pc + 3) ls rest)) : W p l e R s m args below meth c H locs cells slots Q (F0 m pc ls (.int x :: .ref (wB ω + j) :: rest)) :=
  h_puti (ty := .int) C hH hS hj.1 hj.2.1 (by decide) rfl (show 63 < 69 by decide) rfl rfl wd_1250 rfl rfl rfl hdg kk
theorem g_1251 (C : Cx ω p s m args c cc nL RX12) (hH : Hd ω μ H) {j n i : Nat} (hj : Is ω j 12 n) (hi : j + 44 = i) (hdg : decode cc pc = .ok (.getfield 149, 3))
    (kk : W p l e R s m args below meth c H locs cells slots Q (F0 m (pc + 3) ls (.ref (wB ω + i) :: rest))) : W p l e R s m args below meth c H locs cells slots Q (F0 m pc ls (.ref (wB ω + j) :: rest)) :=
  h_getr C hH hj.1 hj.2.1 (by decide) rfl (show 64 < 69 by decide) rfl (by decide) (hj.2.2 _) hi wd_1251 hdg kk
theorem g_1252 (C : Cx ω p s m args c cc nL RX12) (hH : Hd ω μ H) {j n i : Nat} (hj : Is ω j 12 n) (hi : j + 45 = i) (hdg : decode cc pc = .ok (.getfield 152, 3))
    (kk : W p l e R s m args below meth c H locs cells slots Q (F0 m (pc + 3) ls (.ref (wB ω + i) :: rest))) : W p l e R s m args below meth c H locs cells slots Q (F0 m pc ls (.ref (wB ω + j) :: rest)) :=
  h_getr C hH hj.1 hj.2.1 (by decide) rfl (show 65 < 69 by decide) rfl (by decide) (hj.2.2 _) hi wd_1252 hdg kk
theorem g_1253 (C : Cx ω p s m args c cc nL RX12) (hH : Hd ω μ H) {j n i : Nat} (hj : Is ω j 12 n) (hi : j + 46 = i) (hdg : decode cc pc = .ok (.getfield 155, 3))
    (kk : W p l e R s m args below meth c H locs cells slots Q (F0 m (pc + 3) ls (.ref (wB ω + i) :: rest))) : W p l e R s m args below meth c H locs cells slots Q (F0 m pc ls (.ref (wB ω + j) :: rest)) :=
  h_getr C hH hj.1 hj.2.1 (by decide) rfl (show 66 < 69 by decide) rfl (by decide) (hj.2.2 _) hi wd_1253 hdg kk
theorem g_1254 (C : Cx ω p s m args c cc nL RX12) (hH : Hd ω μ H) {j n i : Nat} (hj : Is ω j 12 n) (hi : j + 47 = i) (hdg : decode cc pc = .ok (.getfield 158, 3))
    (kk : W p l e R s m args below meth c H locs cells slots Q (F0 m (pc + 3) ls (.ref (wB ω + i) :: rest))) : W p l e R s m args below meth c H locs cells slots Q (F0 m pc ls (.ref (wB ω + j) :: rest)) :=
  h_getr C hH hj.1 hj.2.1 (by decide) rfl (show 67 < 69 by decide) rfl (by decide) (hj.2.2 _) hi wd_1254 hdg kk
theorem g_1255 (C : Cx ω p s m args c cc nL RX12) (hH : Hd ω μ H) {j n i : Nat} (hj : Is ω j 12 n) (hi : j + 48 = i) (hdg : decode cc pc = .ok (.getfield 161, 3))
    (kk : W p l e R s m args below meth c H locs cells slots Q (F0 m (pc + 3) ls (.ref (wB ω + i) :: rest))) : W p l e R s m args below meth c H locs cells slots Q (F0 m pc ls (.ref (wB ω + j) :: rest)) :=
  h_getr C hH hj.1 hj.2.1 (by decide) rfl (show 68 < 69 by decide) rfl (by decide) (hj.2.2 _) hi wd_1255 hdg kk
end SR
theorem mw_X11_init : Mw yX11_init cX11_init 1 none 0 := ⟨wd_123, wd_98, by decide, by decide, by decide +kernel⟩
theorem mw_X4_init : Mw yX4_init cX4_init 1 none 0 := ⟨wd_131, wd_99, by decide, by decide, by decide +kernel⟩
theorem mw_X8_init : Mw yX8_init cX8_init 3 none 0 := ⟨wd_137, wd_100, by decide, by decide, by decide +kernel⟩
theorem mw_J0_length_8abf5 : Mw yJ0_length_8abf5 cJ0_length_8abf5 1 (some .int) 0 := ⟨wd_143, wd_101, by decide, by decide, by decide +kernel⟩
theorem mw_J0_coder_7d493 : Mw yJ0_coder_7d493 cJ0_coder_7d493 1 (some .byte) 0 := ⟨wd_147, wd_101, by decide, by decide, by decide +kernel⟩
theorem mw_J0_charAt_5068e : Mw yJ0_charAt_5068e cJ0_charAt_5068e 2 (some .char) 1 := ⟨wd_153, wd_101, by decide, by decide, by decide +kernel⟩
theorem mw_J0_isLatin1_aae02 : Mw yJ0_isLatin1_aae02 cJ0_isLatin1_aae02 1 (some .boolean) 0 := ⟨wd_157, wd_101, by decide, by decide, by decide +kernel⟩
theorem mw_J1_charAt_3b067 : Mw yJ1_charAt_3b067 cJ1_charAt_3b067 2 (some .char) 2 := ⟨wd_160, wd_102, by decide, by decide, by decide +kernel⟩
theorem mw_J0_checkIndex_df160 : Mw yJ0_checkIndex_df160 cJ0_checkIndex_df160 2 none 2 := ⟨wd_163, wd_101, by decide, by decide, by decide +kernel⟩
theorem mw_J3_checkIndex_8e157 : Mw yJ3_checkIndex_8e157 cJ3_checkIndex_8e157 3 (some .int) 3 := ⟨wd_168, wd_103, by decide, by decide, by decide +kernel⟩
theorem mw_J2_charAt_3b067 : Mw yJ2_charAt_3b067 cJ2_charAt_3b067 2 (some .char) 2 := ⟨wd_171, wd_104, by decide, by decide, by decide +kernel⟩
theorem mw_J2_checkIndex_2214a : Mw yJ2_checkIndex_2214a cJ2_checkIndex_2214a 2 none 2 := ⟨wd_174, wd_104, by decide, by decide, by decide +kernel⟩
theorem mw_J2_length_9d52b : Mw yJ2_length_9d52b cJ2_length_9d52b 1 (some .int) 1 := ⟨wd_177, wd_104, by decide, by decide, by decide +kernel⟩
theorem mw_J2_getChar_3b067 : Mw yJ2_getChar_3b067 cJ2_getChar_3b067 2 (some .char) 2 := ⟨wd_181, wd_104, by decide, by decide, by decide +kernel⟩
theorem mw_X3_init : Mw yX3_init cX3_init 1 none 0 := ⟨wd_215, wd_105, by decide, by decide, by decide +kernel⟩
theorem mw_X1_init : Mw yX1_init cX1_init 1 none 0 := ⟨wd_221, wd_106, by decide, by decide, by decide +kernel⟩
theorem mw_X1_setUntold : Mw yX1_setUntold cX1_setUntold 1 none 0 := ⟨wd_226, wd_106, by decide, by decide, by decide +kernel⟩
theorem mw_X1_begin : Mw yX1_begin cX1_begin 2 none 1 := ⟨wd_230, wd_106, by decide, by decide, by decide +kernel⟩
theorem mw_X1_append : Mw yX1_append cX1_append 3 none 2 := ⟨wd_234, wd_106, by decide, by decide, by decide +kernel⟩
theorem mw_X3_setUntold : Mw yX3_setUntold cX3_setUntold 1 none 0 := ⟨wd_255, wd_105, by decide, by decide, by decide +kernel⟩
theorem mw_X7_init : Mw yX7_init cX7_init 1 none 0 := ⟨wd_320, wd_107, by decide, by decide, by decide +kernel⟩
theorem mw_X0_init : Mw yX0_init cX0_init 2 none 0 := ⟨wd_352, wd_108, by decide, by decide, by decide +kernel⟩
theorem mw_X6_init : Mw yX6_init cX6_init 2 none 1 := ⟨wd_379, wd_109, by decide, by decide, by decide +kernel⟩
theorem mw_X10_init : Mw yX10_init cX10_init 1 none 0 := ⟨wd_408, wd_110, by decide, by decide, by decide +kernel⟩
theorem mw_X5_init : Mw yX5_init cX5_init 1 none 0 := ⟨wd_426, wd_111, by decide, by decide, by decide +kernel⟩
theorem mw_X2_init : Mw yX2_init cX2_init 1 none 0 := ⟨wd_440, wd_112, by decide, by decide, by decide +kernel⟩
theorem mw_X9_init : Mw yX9_init cX9_init 1 none 0 := ⟨wd_458, wd_113, by decide, by decide, by decide +kernel⟩
theorem mw_X11_feed : Mw yX11_feed cX11_feed 6 (some .int) 5 := ⟨wd_529, wd_98, by decide, by decide, by decide +kernel⟩
theorem mw_X11_putWord : Mw yX11_putWord cX11_putWord 3 none 1 := ⟨wd_533, wd_98, by decide, by decide, by decide +kernel⟩
theorem mw_X11_back : Mw yX11_back cX11_back 2 (some .int) 1 := ⟨wd_537, wd_98, by decide, by decide, by decide +kernel⟩
theorem mw_X11_read : Mw yX11_read cX11_read 2 (some .int) 0 := ⟨wd_541, wd_98, by decide, by decide, by decide +kernel⟩
theorem mw_X4_readText : Mw yX4_readText cX4_readText 5 (some .int) 2 := ⟨wd_545, wd_99, by decide, by decide, by decide +kernel⟩
theorem mw_X8_split : Mw yX8_split cX8_split 6 none 2 := ⟨wd_549, wd_100, by decide, by decide, by decide +kernel⟩
theorem mw_X8_endOfBlanks : Mw yX8_endOfBlanks cX8_endOfBlanks 4 (some .int) 3 := ⟨wd_552, wd_100, by decide, by decide, by decide +kernel⟩
theorem mw_X8_isBlank : Mw yX8_isBlank cX8_isBlank 1 (some .boolean) 1 := ⟨wd_555, wd_100, by decide, by decide, by decide +kernel⟩
theorem mw_X8_endOfRun : Mw yX8_endOfRun cX8_endOfRun 4 (some .int) 3 := ⟨wd_558, wd_100, by decide, by decide, by decide +kernel⟩
theorem mw_X8_isLetter : Mw yX8_isLetter cX8_isLetter 1 (some .boolean) 1 := ⟨wd_561, wd_100, by decide, by decide, by decide +kernel⟩
theorem mw_X8_isDigit : Mw yX8_isDigit cX8_isDigit 1 (some .boolean) 1 := ⟨wd_564, wd_100, by decide, by decide, by decide +kernel⟩
theorem mw_X8_putToken : Mw yX8_putToken cX8_putToken 4 none 3 := ⟨wd_568, wd_100, by decide, by decide, by decide +kernel⟩
theorem mw_X8_nameOf : Mw yX8_nameOf cX8_nameOf 6 (some .long) 3 := ⟨wd_571, wd_100, by decide, by decide, by decide +kernel⟩
theorem mw_X8_kindOfName : Mw yX8_kindOfName cX8_kindOfName 4 (some .int) 1 := ⟨wd_575, wd_100, by decide, by decide, by decide +kernel⟩
theorem mw_X8_numberOf : Mw yX8_numberOf cX8_numberOf 6 (some .long) 3 := ⟨wd_578, wd_100, by decide, by decide, by decide +kernel⟩
theorem mw_J0_indexOf_0f7a4 : Mw yJ0_indexOf_0f7a4 cJ0_indexOf_0f7a4 2 (some .int) 1 := ⟨wd_584, wd_101, by decide, by decide, by decide +kernel⟩
theorem mw_J0_indexOf_7cf53 : Mw yJ0_indexOf_7cf53 cJ0_indexOf_7cf53 3 (some .int) 2 := ⟨wd_588, wd_101, by decide, by decide, by decide +kernel⟩
theorem mw_J1_indexOf_4cfef : Mw yJ1_indexOf_4cfef cJ1_indexOf_4cfef 4 (some .int) 4 := ⟨wd_592, wd_102, by decide, by decide, by decide +kernel⟩
theorem mw_J1_canEncode_9a6ad : Mw yJ1_canEncode_9a6ad cJ1_canEncode_9a6ad 1 (some .boolean) 1 := ⟨wd_595, wd_102, by decide, by decide, by decide +kernel⟩
theorem mw_J9_max_7cf53 : Mw yJ9_max_7cf53 cJ9_max_7cf53 2 (some .int) 2 := ⟨wd_598, wd_115, by decide, by decide, by decide +kernel⟩
theorem mw_J9_min_7cf53 : Mw yJ9_min_7cf53 cJ9_min_7cf53 2 (some .int) 2 := ⟨wd_601, wd_115, by decide, by decide, by decide +kernel⟩
theorem mw_J1_indexOfChar_4cfef : Mw yJ1_indexOfChar_4cfef cJ1_indexOfChar_4cfef 6 (some .int) 4 := ⟨wd_604, wd_102, by decide, by decide, by decide +kernel⟩
theorem mw_J2_indexOf_4cfef : Mw yJ2_indexOf_4cfef cJ2_indexOf_4cfef 4 (some .int) 4 := ⟨wd_607, wd_104, by decide, by decide, by decide +kernel⟩
theorem mw_J2_indexOfChar_4cfef : Mw yJ2_indexOfChar_4cfef cJ2_indexOfChar_4cfef 4 (some .int) 4 := ⟨wd_613, wd_104, by decide, by decide, by decide +kernel⟩
theorem mw_J2_checkBoundsBeginEnd_d044e : Mw yJ2_checkBoundsBeginEnd_d044e cJ2_checkBoundsBeginEnd_d044e 3 none 3 := ⟨wd_616, wd_104, by decide, by decide, by decide +kernel⟩
theorem mw_J0_checkBoundsBeginEnd_23922 : Mw yJ0_checkBoundsBeginEnd_23922 cJ0_checkBoundsBeginEnd_23922 3 none 3 := ⟨wd_619, wd_101, by decide, by decide, by decide +kernel⟩
theorem mw_J3_checkFromToIndex_8c36e : Mw yJ3_checkFromToIndex_8c36e cJ3_checkFromToIndex_8c36e 4 (some .int) 4 := ⟨wd_622, wd_103, by decide, by decide, by decide +kernel⟩
theorem mw_J2_indexOfCharUnsafe_4cfef : Mw yJ2_indexOfCharUnsafe_4cfef cJ2_indexOfCharUnsafe_4cfef 5 (some .int) 4 := ⟨wd_625, wd_104, by decide, by decide, by decide +kernel⟩
theorem mw_J2_indexOfSupplementary_4cfef : Mw yJ2_indexOfSupplementary_4cfef cJ2_indexOfSupplementary_4cfef 7 (some .int) 4 := ⟨wd_628, wd_104, by decide, by decide, by decide +kernel⟩
theorem mw_J11_isValidCodePoint_9a6ad : Mw yJ11_isValidCodePoint_9a6ad cJ11_isValidCodePoint_9a6ad 2 (some .boolean) 1 := ⟨wd_631, wd_116, by decide, by decide, by decide +kernel⟩
theorem mw_J11_highSurrogate_5068e : Mw yJ11_highSurrogate_5068e cJ11_highSurrogate_5068e 1 (some .char) 1 := ⟨wd_634, wd_116, by decide, by decide, by decide +kernel⟩
theorem mw_J11_lowSurrogate_5068e : Mw yJ11_lowSurrogate_5068e cJ11_lowSurrogate_5068e 1 (some .char) 1 := ⟨wd_638, wd_116, by decide, by decide, by decide +kernel⟩
theorem mw_X4_tellOne : Mw yX4_tellOne cX4_tellOne 2 (some .boolean) 0 := ⟨wd_644, wd_99, by decide, by decide, by decide +kernel⟩
theorem mw_X4_tellHouse : Mw yX4_tellHouse cX4_tellHouse 3 (some .boolean) 0 := ⟨wd_648, wd_99, by decide, by decide, by decide +kernel⟩
theorem mw_X4_refuse : Mw yX4_refuse cX4_refuse 2 (some .boolean) 1 := ⟨wd_652, wd_99, by decide, by decide, by decide +kernel⟩
theorem mw_X4_take : Mw yX4_take cX4_take 2 (some .boolean) 1 := ⟨wd_656, wd_99, by decide, by decide, by decide +kernel⟩
theorem mw_X4_isToldAlready : Mw yX4_isToldAlready cX4_isToldAlready 4 (some .boolean) 1 := ⟨wd_660, wd_99, by decide, by decide, by decide +kernel⟩
theorem mw_X4_note : Mw yX4_note cX4_note 2 none 1 := ⟨wd_664, wd_99, by decide, by decide, by decide +kernel⟩
theorem mw_X4_numberHere : Mw yX4_numberHere cX4_numberHere 4 (some .int) 1 := ⟨wd_668, wd_99, by decide, by decide, by decide +kernel⟩
theorem mw_X3_setNumber : Mw yX3_setNumber cX3_setNumber 5 none 3 := ⟨wd_676, wd_105, by decide, by decide, by decide +kernel⟩
theorem mw_X4_tellLaw : Mw yX4_tellLaw cX4_tellLaw 5 (some .boolean) 1 := ⟨wd_680, wd_99, by decide, by decide, by decide +kernel⟩
theorem mw_X4_sum : Mw yX4_sum cX4_sum 4 (some .boolean) 1 := ⟨wd_685, wd_99, by decide, by decide, by decide +kernel⟩
theorem mw_X4_product : Mw yX4_product cX4_product 4 (some .boolean) 1 := ⟨wd_689, wd_99, by decide, by decide, by decide +kernel⟩
theorem mw_X4_unit : Mw yX4_unit cX4_unit 3 (some .boolean) 1 := ⟨wd_693, wd_99, by decide, by decide, by decide +kernel⟩
theorem mw_X1_aimHere : Mw yX1_aimHere cX1_aimHere 2 none 1 := ⟨wd_698, wd_106, by decide, by decide, by decide +kernel⟩
theorem mw_X4_tellNumber : Mw yX4_tellNumber cX4_tellNumber 3 (some .boolean) 1 := ⟨wd_702, wd_99, by decide, by decide, by decide +kernel⟩
theorem mw_X3_copyFrom : Mw yX3_copyFrom cX3_copyFrom 2 none 1 := ⟨wd_706, wd_105, by decide, by decide, by decide +kernel⟩
theorem mw_X1_copyFrom : Mw yX1_copyFrom cX1_copyFrom 2 none 1 := ⟨wd_713, wd_106, by decide, by decide, by decide +kernel⟩
theorem mw_X3_begin : Mw yX3_begin cX3_begin 4 none 1 := ⟨wd_718, wd_105, by decide, by decide, by decide +kernel⟩
theorem mw_X7_set : Mw yX7_set cX7_set 5 none 3 := ⟨wd_722, wd_107, by decide, by decide, by decide +kernel⟩
theorem mw_X3_number : Mw yX3_number cX3_number 4 (some .int) 2 := ⟨wd_726, wd_105, by decide, by decide, by decide +kernel⟩
theorem mw_X0_clearAll : Mw yX0_clearAll cX0_clearAll 2 none 0 := ⟨wd_730, wd_108, by decide, by decide, by decide +kernel⟩
theorem mw_X11_place : Mw yX11_place cX11_place 1 (some .int) 0 := ⟨wd_734, wd_98, by decide, by decide, by decide +kernel⟩
theorem mw_X11_house : Mw yX11_house cX11_house 3 (some .int) 2 := ⟨wd_738, wd_98, by decide, by decide, by decide +kernel⟩
theorem mw_X11_isHouse : Mw yX11_isHouse cX11_isHouse 2 (some .boolean) 1 := ⟨wd_742, wd_98, by decide, by decide, by decide +kernel⟩
theorem mw_X7_get : Mw yX7_get cX7_get 4 (some .int) 2 := ⟨wd_746, wd_107, by decide, by decide, by decide +kernel⟩
theorem mw_X3_cools : Mw yX3_cools cX3_cools 3 (some .int) 2 := ⟨wd_750, wd_105, by decide, by decide, by decide +kernel⟩
theorem mw_X1_valueOf : Mw yX1_valueOf cX1_valueOf 10 (some .int) 3 := ⟨wd_754, wd_106, by decide, by decide, by decide +kernel⟩
theorem mw_X1_joined : Mw yX1_joined cX1_joined 3 (some .int) 3 := ⟨wd_759, wd_106, by decide, by decide, by decide +kernel⟩
theorem mw_X3_warms : Mw yX3_warms cX3_warms 3 (some .int) 2 := ⟨wd_765, wd_105, by decide, by decide, by decide +kernel⟩
theorem mw_X3_fades : Mw yX3_fades cX3_fades 4 (some .int) 2 := ⟨wd_769, wd_105, by decide, by decide, by decide +kernel⟩
theorem mw_X3_mends : Mw yX3_mends cX3_mends 3 (some .int) 2 := ⟨wd_774, wd_105, by decide, by decide, by decide +kernel⟩
theorem mw_X3_xOf : Mw yX3_xOf cX3_xOf 2 (some .int) 1 := ⟨wd_778, wd_105, by decide, by decide, by decide +kernel⟩
theorem mw_X3_yOf : Mw yX3_yOf cX3_yOf 2 (some .int) 1 := ⟨wd_782, wd_105, by decide, by decide, by decide +kernel⟩
theorem mw_X11_count : Mw yX11_count cX11_count 2 (some .int) 1 := ⟨wd_786, wd_98, by decide, by decide, by decide +kernel⟩
theorem mw_X7_sumOf : Mw yX7_sumOf cX7_sumOf 4 (some .int) 1 := ⟨wd_790, wd_107, by decide, by decide, by decide +kernel⟩
theorem mw_X7_bitsOf : Mw yX7_bitsOf cX7_bitsOf 6 (some .int) 3 := ⟨wd_795, wd_107, by decide, by decide, by decide +kernel⟩
theorem mw_X0_heldSlots : Mw yX0_heldSlots cX0_heldSlots 3 (some .int) 0 := ⟨wd_799, wd_108, by decide, by decide, by decide +kernel⟩
theorem mw_X3_hails : Mw yX3_hails cX3_hails 3 (some .boolean) 2 := ⟨wd_803, wd_105, by decide, by decide, by decide +kernel⟩
theorem mw_X3_lot : Mw yX3_lot cX3_lot 4 (some .int) 3 := ⟨wd_806, wd_105, by decide, by decide, by decide +kernel⟩
theorem mw_X3_mixed : Mw yX3_mixed cX3_mixed 3 (some .int) 2 := ⟨wd_809, wd_105, by decide, by decide, by decide +kernel⟩
theorem mw_X11_lossOfAll : Mw yX11_lossOfAll cX11_lossOfAll 3 (some .int) 0 := ⟨wd_814, wd_98, by decide, by decide, by decide +kernel⟩
theorem mw_X11_summers : Mw yX11_summers cX11_summers 4 (some .int) 1 := ⟨wd_818, wd_98, by decide, by decide, by decide +kernel⟩
theorem mw_X11_burn : Mw yX11_burn cX11_burn 3 (some .int) 2 := ⟨wd_822, wd_98, by decide, by decide, by decide +kernel⟩
theorem mw_X0_push : Mw yX0_push cX0_push 2 none 1 := ⟨wd_826, wd_108, by decide, by decide, by decide +kernel⟩
theorem mw_X7_copyFrom : Mw yX7_copyFrom cX7_copyFrom 2 none 1 := ⟨wd_830, wd_107, by decide, by decide, by decide +kernel⟩
theorem mw_X3_burnIn : Mw yX3_burnIn cX3_burnIn 6 none 3 := ⟨wd_836, wd_105, by decide, by decide, by decide +kernel⟩
theorem mw_X11_door : Mw yX11_door cX11_door 4 (some .boolean) 2 := ⟨wd_841, wd_98, by decide, by decide, by decide +kernel⟩
theorem mw_X11_mend : Mw yX11_mend cX11_mend 3 (some .int) 1 := ⟨wd_846, wd_98, by decide, by decide, by decide +kernel⟩
theorem mw_X11_cut : Mw yX11_cut cX11_cut 5 (some .int) 2 := ⟨wd_850, wd_98, by decide, by decide, by decide +kernel⟩
theorem mw_X11_bring : Mw yX11_bring cX11_bring 2 (some .int) 1 := ⟨wd_855, wd_98, by decide, by decide, by decide +kernel⟩
theorem mw_X11_days : Mw yX11_days cX11_days 3 (some .int) 1 := ⟨wd_859, wd_98, by decide, by decide, by decide +kernel⟩
theorem mw_X3_passDay : Mw yX3_passDay cX3_passDay 3 none 1 := ⟨wd_863, wd_105, by decide, by decide, by decide +kernel⟩
theorem mw_X3_passHouse : Mw yX3_passHouse cX3_passHouse 5 none 2 := ⟨wd_867, wd_105, by decide, by decide, by decide +kernel⟩
theorem mw_X3_timesCooled : Mw yX3_timesCooled cX3_timesCooled 3 (some .int) 2 := ⟨wd_873, wd_105, by decide, by decide, by decide +kernel⟩
theorem mw_X3_hailOn : Mw yX3_hailOn cX3_hailOn 3 none 1 := ⟨wd_877, wd_105, by decide, by decide, by decide +kernel⟩
theorem mw_X3_struckHouse : Mw yX3_struckHouse cX3_struckHouse 3 (some .int) 2 := ⟨wd_881, wd_105, by decide, by decide, by decide +kernel⟩
theorem mw_X3_breakPane : Mw yX3_breakPane cX3_breakPane 4 none 2 := ⟨wd_886, wd_105, by decide, by decide, by decide +kernel⟩
theorem mw_X11_undo : Mw yX11_undo cX11_undo 1 (some .boolean) 0 := ⟨wd_890, wd_98, by decide, by decide, by decide +kernel⟩
theorem mw_X0_pop : Mw yX0_pop cX0_pop 2 (some .boolean) 1 := ⟨wd_894, wd_108, by decide, by decide, by decide +kernel⟩
theorem mw_X11_hold : Mw yX11_hold cX11_hold 2 (some .boolean) 1 := ⟨wd_898, wd_98, by decide, by decide, by decide +kernel⟩
theorem mw_X0_keep : Mw yX0_keep cX0_keep 3 (some .boolean) 2 := ⟨wd_902, wd_108, by decide, by decide, by decide +kernel⟩
theorem mw_X11_restore : Mw yX11_restore cX11_restore 2 (some .boolean) 1 := ⟨wd_906, wd_98, by decide, by decide, by decide +kernel⟩
theorem mw_X0_fetch : Mw yX0_fetch cX0_fetch 3 (some .boolean) 2 := ⟨wd_910, wd_108, by decide, by decide, by decide +kernel⟩
theorem mw_X11_loss : Mw yX11_loss cX11_loss 3 (some .int) 2 := ⟨wd_914, wd_98, by decide, by decide, by decide +kernel⟩
theorem mw_X11_lossWith : Mw yX11_lossWith cX11_lossWith 3 (some .int) 2 := ⟨wd_918, wd_98, by decide, by decide, by decide +kernel⟩
theorem mw_X11_share : Mw yX11_share cX11_share 3 (some .int) 2 := ⟨wd_923, wd_98, by decide, by decide, by decide +kernel⟩
theorem mw_X6_weigh : Mw yX6_weigh cX6_weigh 8 none 3 := ⟨wd_927, wd_109, by decide, by decide, by decide +kernel⟩
theorem mw_X6_fewestBest : Mw yX6_fewestBest cX6_fewestBest 6 (some .int) 2 := ⟨wd_935, wd_109, by decide, by decide, by decide +kernel⟩
theorem mw_X6_leastLoss : Mw yX6_leastLoss cX6_leastLoss 2 (some .int) 1 := ⟨wd_939, wd_109, by decide, by decide, by decide +kernel⟩
theorem mw_X6_shareOut : Mw yX6_shareOut cX6_shareOut 4 none 1 := ⟨wd_943, wd_109, by decide, by decide, by decide +kernel⟩
theorem mw_X6_givenTo : Mw yX6_givenTo cX6_givenTo 2 (some .int) 1 := ⟨wd_947, wd_109, by decide, by decide, by decide +kernel⟩
theorem mw_X11_enough : Mw yX11_enough cX11_enough 4 (some .int) 0 := ⟨wd_951, wd_98, by decide, by decide, by decide +kernel⟩
theorem mw_X11_coalsNeeded : Mw yX11_coalsNeeded cX11_coalsNeeded 4 (some .int) 2 := ⟨wd_955, wd_98, by decide, by decide, by decide +kernel⟩
theorem mw_X11_plan : Mw yX11_plan cX11_plan 6 (some .int) 2 := ⟨wd_959, wd_98, by decide, by decide, by decide +kernel⟩
theorem mw_X6_burnGiven : Mw yX6_burnGiven cX6_burnGiven 5 none 3 := ⟨wd_963, wd_109, by decide, by decide, by decide +kernel⟩
theorem mw_X11_keptByPlan : Mw yX11_keptByPlan cX11_keptByPlan 3 (some .int) 2 := ⟨wd_968, wd_98, by decide, by decide, by decide +kernel⟩
theorem mw_X11_worst : Mw yX11_worst cX11_worst 6 (some .int) 1 := ⟨wd_972, wd_98, by decide, by decide, by decide +kernel⟩
theorem mw_X11_lasts : Mw yX11_lasts cX11_lasts 4 (some .int) 0 := ⟨wd_976, wd_98, by decide, by decide, by decide +kernel⟩
theorem mw_X11_gone : Mw yX11_gone cX11_gone 2 (some .int) 1 := ⟨wd_981, wd_98, by decide, by decide, by decide +kernel⟩
theorem mw_X11_daysTillNothing : Mw yX11_daysTillNothing cX11_daysTillNothing 4 (some .int) 2 := ⟨wd_985, wd_98, by decide, by decide, by decide +kernel⟩
theorem mw_X11_cold : Mw yX11_cold cX11_cold 2 (some .int) 1 := ⟨wd_990, wd_98, by decide, by decide, by decide +kernel⟩
theorem mw_X11_saves : Mw yX11_saves cX11_saves 2 (some .int) 1 := ⟨wd_994, wd_98, by decide, by decide, by decide +kernel⟩
theorem mw_X11_savedByOne : Mw yX11_savedByOne cX11_savedByOne 2 (some .int) 1 := ⟨wd_998, wd_98, by decide, by decide, by decide +kernel⟩
theorem mw_X11_first : Mw yX11_first cX11_first 5 (some .int) 0 := ⟨wd_1003, wd_98, by decide, by decide, by decide +kernel⟩
theorem mw_X11_draughty : Mw yX11_draughty cX11_draughty 6 (some .int) 1 := ⟨wd_1007, wd_98, by decide, by decide, by decide +kernel⟩
theorem mw_X11_then : Mw yX11_then cX11_then 4 (some .int) 3 := ⟨wd_1012, wd_98, by decide, by decide, by decide +kernel⟩
theorem mw_X11_lookAhead : Mw yX11_lookAhead cX11_lookAhead 5 none 3 := ⟨wd_1016, wd_98, by decide, by decide, by decide +kernel⟩
theorem mw_X11_year : Mw yX11_year cX11_year 6 (some .int) 3 := ⟨wd_1022, wd_98, by decide, by decide, by decide +kernel⟩
theorem mw_X11_far : Mw yX11_far cX11_far 3 (some .int) 2 := ⟨wd_1026, wd_98, by decide, by decide, by decide +kernel⟩
theorem mw_X3_distance : Mw yX3_distance cX3_distance 3 (some .int) 2 := ⟨wd_1030, wd_105, by decide, by decide, by decide +kernel⟩
theorem mw_J9_abs_0f7a4 : Mw yJ9_abs_0f7a4 cJ9_abs_0f7a4 1 (some .int) 1 := ⟨wd_1034, wd_115, by decide, by decide, by decide +kernel⟩
theorem mw_X11_round : Mw yX11_round cX11_round 2 (some .int) 1 := ⟨wd_1039, wd_98, by decide, by decide, by decide +kernel⟩
theorem mw_X10_search : Mw yX10_search cX10_search 3 none 2 := ⟨wd_1043, wd_110, by decide, by decide, by decide +kernel⟩
theorem mw_X10_goOn : Mw yX10_goOn cX10_goOn 6 none 4 := ⟨wd_1048, wd_110, by decide, by decide, by decide +kernel⟩
theorem mw_X11_next : Mw yX11_next cX11_next 3 (some .int) 2 := ⟨wd_1054, wd_98, by decide, by decide, by decide +kernel⟩
theorem mw_X11_pipes : Mw yX11_pipes cX11_pipes 5 (some .int) 0 := ⟨wd_1058, wd_98, by decide, by decide, by decide +kernel⟩
theorem mw_X11_nearestToJoined : Mw yX11_nearestToJoined cX11_nearestToJoined 6 (some .int) 1 := ⟨wd_1062, wd_98, by decide, by decide, by decide +kernel⟩
theorem mw_X11_distanceToJoined : Mw yX11_distanceToJoined cX11_distanceToJoined 5 (some .int) 2 := ⟨wd_1067, wd_98, by decide, by decide, by decide +kernel⟩
theorem mw_X11_nearest : Mw yX11_nearest cX11_nearest 5 (some .int) 1 := ⟨wd_1071, wd_98, by decide, by decide, by decide +kernel⟩
theorem mw_X11_twins : Mw yX11_twins cX11_twins 7 (some .int) 1 := ⟨wd_1075, wd_98, by decide, by decide, by decide +kernel⟩
theorem mw_X7_keptApart : Mw yX7_keptApart cX7_keptApart 3 (some .int) 2 := ⟨wd_1079, wd_107, by decide, by decide, by decide +kernel⟩
theorem mw_X11_roofs : Mw yX11_roofs cX11_roofs 3 (some .int) 1 := ⟨wd_1084, wd_98, by decide, by decide, by decide +kernel⟩
theorem mw_X5_search : Mw yX5_search cX5_search 5 (some .int) 2 := ⟨wd_1088, wd_111, by decide, by decide, by decide +kernel⟩
theorem mw_X5_coverFrom : Mw yX5_coverFrom cX5_coverFrom 8 (some .boolean) 5 := ⟨wd_1093, wd_111, by decide, by decide, by decide +kernel⟩
theorem mw_X11_paired : Mw yX11_paired cX11_paired 2 (some .int) 1 := ⟨wd_1098, wd_98, by decide, by decide, by decide +kernel⟩
theorem mw_X2_search : Mw yX2_search cX2_search 3 none 2 := ⟨wd_1102, wd_112, by decide, by decide, by decide +kernel⟩
theorem mw_X2_pairFrom : Mw yX2_pairFrom cX2_pairFrom 8 none 5 := ⟨wd_1107, wd_112, by decide, by decide, by decide +kernel⟩
theorem mw_X2_mayStayAlone : Mw yX2_mayStayAlone cX2_mayStayAlone 4 (some .boolean) 3 := ⟨wd_1112, wd_112, by decide, by decide, by decide +kernel⟩
theorem mw_X11_tell : Mw yX11_tell cX11_tell 4 (some .int) 3 := ⟨wd_1116, wd_98, by decide, by decide, by decide +kernel⟩
theorem mw_X9_add : Mw yX9_add cX9_add 4 (some .int) 3 := ⟨wd_1120, wd_113, by decide, by decide, by decide +kernel⟩
theorem mw_X11_forget : Mw yX11_forget cX11_forget 2 (some .int) 0 := ⟨wd_1124, wd_98, by decide, by decide, by decide +kernel⟩
theorem mw_X11_whose : Mw yX11_whose cX11_whose 4 (some .int) 2 := ⟨wd_1128, wd_98, by decide, by decide, by decide +kernel⟩
theorem mw_X9_fitting : Mw yX9_fitting cX9_fitting 8 (some .int) 3 := ⟨wd_1132, wd_113, by decide, by decide, by decide +kernel⟩
theorem mw_X9_isAtLeast : Mw yX9_isAtLeast cX9_isAtLeast 4 (some .boolean) 4 := ⟨wd_1135, wd_113, by decide, by decide, by decide +kernel⟩
theorem mw_J6_bitCount_0f7a4 : Mw yJ6_bitCount_0f7a4 cJ6_bitCount_0f7a4 1 (some .int) 1 := ⟨wd_1141, wd_118, by decide, by decide, by decide +kernel⟩
theorem mw_X11_look : Mw yX11_look cX11_look 4 (some .int) 2 := ⟨wd_1148, wd_98, by decide, by decide, by decide +kernel⟩
theorem mw_X9_bestMark : Mw yX9_bestMark cX9_bestMark 8 (some .int) 3 := ⟨wd_1152, wd_113, by decide, by decide, by decide +kernel⟩
theorem mw_X9_leftAtWorst : Mw yX9_leftAtWorst cX9_leftAtWorst 6 (some .int) 4 := ⟨wd_1156, wd_113, by decide, by decide, by decide +kernel⟩
theorem mw_X12_init : Mw yX12_init cX12_init 1 none 0 := ⟨wd_1163, wd_114, by decide, by decide, by decide +kernel⟩
theorem mw_X12_plain : Mw yX12_plain cX12_plain 3 none 1 := ⟨wd_1168, wd_114, by decide, by decide, by decide +kernel⟩
theorem mw_X12_word : Mw yX12_word cX12_word 7 (some .long) 7 := ⟨wd_1171, wd_114, by decide, by decide, by decide +kernel⟩
theorem mw_X12_appends : Mw yX12_appends cX12_appends 3 (some .long) 2 := ⟨wd_1174, wd_114, by decide, by decide, by decide +kernel⟩
theorem mw_X12_begins : Mw yX12_begins cX12_begins 2 none 0 := ⟨wd_1179, wd_114, by decide, by decide, by decide +kernel⟩
theorem mw_X12_many : Mw yX12_many cX12_many 1 (some .int) 0 := ⟨wd_1183, wd_114, by decide, by decide, by decide +kernel⟩
theorem mw_X12_keepsRow : Mw yX12_keepsRow cX12_keepsRow 2 none 0 := ⟨wd_1187, wd_114, by decide, by decide, by decide +kernel⟩
theorem mw_X12_feed : Mw yX12_feed cX12_feed 6 (some .int) 5 := ⟨wd_1398, wd_114, by decide, by decide, by decide +kernel⟩
theorem mw_X12_put : Mw yX12_put cX12_put 3 none 1 := ⟨wd_1402, wd_114, by decide, by decide, by decide +kernel⟩
theorem mw_X12_back : Mw yX12_back cX12_back 2 (some .int) 1 := ⟨wd_1406, wd_114, by decide, by decide, by decide +kernel⟩
theorem mw_X12_read : Mw yX12_read cX12_read 2 (some .int) 0 := ⟨wd_1410, wd_114, by decide, by decide, by decide +kernel⟩
theorem mw_X12_cutsUp : Mw yX12_cutsUp cX12_cutsUp 8 none 0 := ⟨wd_1414, wd_114, by decide, by decide, by decide +kernel⟩
theorem mw_X12_byteAt : Mw yX12_byteAt cX12_byteAt 2 (some .int) 1 := ⟨wd_1418, wd_114, by decide, by decide, by decide +kernel⟩
theorem mw_X12_token : Mw yX12_token cX12_token 6 none 4 := ⟨wd_1422, wd_114, by decide, by decide, by decide +kernel⟩
theorem mw_X12_isLetter : Mw yX12_isLetter cX12_isLetter 1 (some .boolean) 1 := ⟨wd_1425, wd_114, by decide, by decide, by decide +kernel⟩
theorem mw_X12_isDigit : Mw yX12_isDigit cX12_isDigit 1 (some .boolean) 1 := ⟨wd_1428, wd_114, by decide, by decide, by decide +kernel⟩
theorem mw_X12_sign : Mw yX12_sign cX12_sign 5 (some .int) 3 := ⟨wd_1432, wd_114, by decide, by decide, by decide +kernel⟩
theorem mw_X12_is : Mw yX12_is cX12_is 2 (some .boolean) 1 := ⟨wd_1436, wd_114, by decide, by decide, by decide +kernel⟩
theorem mw_X12_tellOne : Mw yX12_tellOne cX12_tellOne 2 none 0 := ⟨wd_1440, wd_114, by decide, by decide, by decide +kernel⟩
theorem mw_X12_fail : Mw yX12_fail cX12_fail 2 none 1 := ⟨wd_1444, wd_114, by decide, by decide, by decide +kernel⟩
theorem mw_X12_tellHouse : Mw yX12_tellHouse cX12_tellHouse 4 none 0 := ⟨wd_1448, wd_114, by decide, by decide, by decide +kernel⟩
theorem mw_X12_goesOn : Mw yX12_goesOn cX12_goesOn 1 none 0 := ⟨wd_1452, wd_114, by decide, by decide, by decide +kernel⟩
theorem mw_X12_must : Mw yX12_must cX12_must 2 none 1 := ⟨wd_1456, wd_114, by decide, by decide, by decide +kernel⟩
theorem mw_X12_wrong : Mw yX12_wrong cX12_wrong 4 none 2 := ⟨wd_1460, wd_114, by decide, by decide, by decide +kernel⟩
theorem mw_X12_bounded : Mw yX12_bounded cX12_bounded 4 (some .int) 2 := ⟨wd_1464, wd_114, by decide, by decide, by decide +kernel⟩
theorem mw_X12_toldInt : Mw yX12_toldInt cX12_toldInt 4 (some .int) 2 := ⟨wd_1468, wd_114, by decide, by decide, by decide +kernel⟩
theorem mw_X12_tellLaw : Mw yX12_tellLaw cX12_tellLaw 4 none 1 := ⟨wd_1472, wd_114, by decide, by decide, by decide +kernel⟩
theorem mw_X12_expression : Mw yX12_expression cX12_expression 3 none 0 := ⟨wd_1476, wd_114, by decide, by decide, by decide +kernel⟩
theorem mw_X12_unit : Mw yX12_unit cX12_unit 1 none 0 := ⟨wd_1480, wd_114, by decide, by decide, by decide +kernel⟩
theorem mw_X12_emit : Mw yX12_emit cX12_emit 3 none 2 := ⟨wd_1484, wd_114, by decide, by decide, by decide +kernel⟩
theorem mw_X12_comesOut : Mw yX12_comesOut cX12_comesOut 3 none 1 := ⟨wd_1488, wd_114, by decide, by decide, by decide +kernel⟩
theorem mw_X12_term : Mw yX12_term cX12_term 1 none 0 := ⟨wd_1492, wd_114, by decide, by decide, by decide +kernel⟩
theorem mw_X12_place : Mw yX12_place cX12_place 1 (some .int) 0 := ⟨wd_1496, wd_114, by decide, by decide, by decide +kernel⟩
theorem mw_X12_house : Mw yX12_house cX12_house 3 (some .int) 2 := ⟨wd_1500, wd_114, by decide, by decide, by decide +kernel⟩
theorem mw_X12_isHouse : Mw yX12_isHouse cX12_isHouse 2 (some .boolean) 1 := ⟨wd_1504, wd_114, by decide, by decide, by decide +kernel⟩
theorem mw_X12_in : Mw yX12_in cX12_in 3 (some .boolean) 3 := ⟨wd_1507, wd_114, by decide, by decide, by decide +kernel⟩
theorem mw_X12_copies : Mw yX12_copies cX12_copies 2 none 0 := ⟨wd_1511, wd_114, by decide, by decide, by decide +kernel⟩
theorem mw_X12_panesAt : Mw yX12_panesAt cX12_panesAt 2 (some .int) 1 := ⟨wd_1515, wd_114, by decide, by decide, by decide +kernel⟩
theorem mw_X12_coolsOf : Mw yX12_coolsOf cX12_coolsOf 2 (some .int) 1 := ⟨wd_1519, wd_114, by decide, by decide, by decide +kernel⟩
theorem mw_X12_lawOf : Mw yX12_lawOf cX12_lawOf 6 (some .int) 4 := ⟨wd_1523, wd_114, by decide, by decide, by decide +kernel⟩
theorem mw_X12_lawTells : Mw yX12_lawTells cX12_lawTells 7 (some .int) 2 := ⟨wd_1527, wd_114, by decide, by decide, by decide +kernel⟩
theorem mw_X12_termOf : Mw yX12_termOf cX12_termOf 8 (some .int) 2 := ⟨wd_1531, wd_114, by decide, by decide, by decide +kernel⟩
theorem mw_X12_within : Mw yX12_within cX12_within 3 (some .int) 3 := ⟨wd_1534, wd_114, by decide, by decide, by decide +kernel⟩
theorem mw_X12_warmsOf : Mw yX12_warmsOf cX12_warmsOf 2 (some .int) 1 := ⟨wd_1538, wd_114, by decide, by decide, by decide +kernel⟩
theorem mw_X12_fadesOf : Mw yX12_fadesOf cX12_fadesOf 2 (some .int) 1 := ⟨wd_1542, wd_114, by decide, by decide, by decide +kernel⟩
theorem mw_X12_mendsOf : Mw yX12_mendsOf cX12_mendsOf 2 (some .int) 1 := ⟨wd_1546, wd_114, by decide, by decide, by decide +kernel⟩
theorem mw_X12_burn : Mw yX12_burn cX12_burn 3 (some .int) 2 := ⟨wd_1550, wd_114, by decide, by decide, by decide +kernel⟩
theorem mw_X12_burns : Mw yX12_burns cX12_burns 4 none 2 := ⟨wd_1554, wd_114, by decide, by decide, by decide +kernel⟩
theorem mw_X12_burnsOne : Mw yX12_burnsOne cX12_burnsOne 2 none 1 := ⟨wd_1558, wd_114, by decide, by decide, by decide +kernel⟩
theorem mw_X12_records : Mw yX12_records cX12_records 2 none 0 := ⟨wd_1562, wd_114, by decide, by decide, by decide +kernel⟩
theorem mw_X12_door : Mw yX12_door cX12_door 3 (some .boolean) 2 := ⟨wd_1566, wd_114, by decide, by decide, by decide +kernel⟩
theorem mw_X12_mend : Mw yX12_mend cX12_mend 3 (some .int) 1 := ⟨wd_1570, wd_114, by decide, by decide, by decide +kernel⟩
theorem mw_X12_cut : Mw yX12_cut cX12_cut 4 (some .int) 2 := ⟨wd_1574, wd_114, by decide, by decide, by decide +kernel⟩
theorem mw_X12_bring : Mw yX12_bring cX12_bring 2 (some .int) 1 := ⟨wd_1578, wd_114, by decide, by decide, by decide +kernel⟩
theorem mw_X12_days : Mw yX12_days cX12_days 2 (some .int) 1 := ⟨wd_1582, wd_114, by decide, by decide, by decide +kernel⟩
theorem mw_X12_isLong : Mw yX12_isLong cX12_isLong 1 (some .boolean) 1 := ⟨wd_1585, wd_114, by decide, by decide, by decide +kernel⟩
theorem mw_X12_goes : Mw yX12_goes cX12_goes 3 none 1 := ⟨wd_1589, wd_114, by decide, by decide, by decide +kernel⟩
theorem mw_X12_dayGoes : Mw yX12_dayGoes cX12_dayGoes 2 none 0 := ⟨wd_1593, wd_114, by decide, by decide, by decide +kernel⟩
theorem mw_X12_chillOf : Mw yX12_chillOf cX12_chillOf 2 (some .int) 1 := ⟨wd_1597, wd_114, by decide, by decide, by decide +kernel⟩
theorem mw_X12_isHail : Mw yX12_isHail cX12_isHail 1 (some .boolean) 0 := ⟨wd_1601, wd_114, by decide, by decide, by decide +kernel⟩
theorem mw_X12_lotOf : Mw yX12_lotOf cX12_lotOf 3 (some .int) 2 := ⟨wd_1605, wd_114, by decide, by decide, by decide +kernel⟩
theorem mw_X12_mixed : Mw yX12_mixed cX12_mixed 3 (some .int) 2 := ⟨wd_1608, wd_114, by decide, by decide, by decide +kernel⟩
theorem mw_X12_undo : Mw yX12_undo cX12_undo 2 (some .boolean) 0 := ⟨wd_1613, wd_114, by decide, by decide, by decide +kernel⟩
theorem mw_X12_loss : Mw yX12_loss cX12_loss 3 (some .int) 2 := ⟨wd_1617, wd_114, by decide, by decide, by decide +kernel⟩
theorem mw_X12_isSmall : Mw yX12_isSmall cX12_isSmall 1 (some .boolean) 1 := ⟨wd_1620, wd_114, by decide, by decide, by decide +kernel⟩
theorem mw_X12_share : Mw yX12_share cX12_share 5 (some .int) 2 := ⟨wd_1624, wd_114, by decide, by decide, by decide +kernel⟩
theorem mw_X12_fillsShare : Mw yX12_fillsShare cX12_fillsShare 6 none 1 := ⟨wd_1628, wd_114, by decide, by decide, by decide +kernel⟩
theorem mw_X12_fillsLoss : Mw yX12_fillsLoss cX12_fillsLoss 6 none 1 := ⟨wd_1632, wd_114, by decide, by decide, by decide +kernel⟩
theorem mw_X12_lossWith : Mw yX12_lossWith cX12_lossWith 4 (some .int) 3 := ⟨wd_1636, wd_114, by decide, by decide, by decide +kernel⟩
theorem mw_X12_shareFor : Mw yX12_shareFor cX12_shareFor 4 (some .int) 2 := ⟨wd_1640, wd_114, by decide, by decide, by decide +kernel⟩
theorem mw_X12_enough : Mw yX12_enough cX12_enough 3 (some .int) 0 := ⟨wd_1644, wd_114, by decide, by decide, by decide +kernel⟩
theorem mw_X12_needsOf : Mw yX12_needsOf cX12_needsOf 3 (some .int) 1 := ⟨wd_1648, wd_114, by decide, by decide, by decide +kernel⟩
theorem mw_X12_plan : Mw yX12_plan cX12_plan 9 (some .int) 2 := ⟨wd_1652, wd_114, by decide, by decide, by decide +kernel⟩
theorem mw_X12_copiesStill : Mw yX12_copiesStill cX12_copiesStill 1 none 0 := ⟨wd_1656, wd_114, by decide, by decide, by decide +kernel⟩
theorem mw_X12_burnsShared : Mw yX12_burnsShared cX12_burnsShared 5 none 1 := ⟨wd_1660, wd_114, by decide, by decide, by decide +kernel⟩
theorem mw_X12_keptAll : Mw yX12_keptAll cX12_keptAll 3 (some .int) 0 := ⟨wd_1664, wd_114, by decide, by decide, by decide +kernel⟩
theorem mw_X12_worst : Mw yX12_worst cX12_worst 4 (some .int) 1 := ⟨wd_1668, wd_114, by decide, by decide, by decide +kernel⟩
theorem mw_X12_lasts : Mw yX12_lasts cX12_lasts 2 (some .int) 0 := ⟨wd_1672, wd_114, by decide, by decide, by decide +kernel⟩
theorem mw_X12_runsOut : Mw yX12_runsOut cX12_runsOut 3 (some .boolean) 0 := ⟨wd_1676, wd_114, by decide, by decide, by decide +kernel⟩
theorem mw_X12_needsNow : Mw yX12_needsNow cX12_needsNow 5 (some .int) 1 := ⟨wd_1680, wd_114, by decide, by decide, by decide +kernel⟩
theorem mw_X12_gone : Mw yX12_gone cX12_gone 2 (some .int) 1 := ⟨wd_1684, wd_114, by decide, by decide, by decide +kernel⟩
theorem mw_X12_behindNone : Mw yX12_behindNone cX12_behindNone 3 (some .int) 1 := ⟨wd_1688, wd_114, by decide, by decide, by decide +kernel⟩
theorem mw_X12_cold : Mw yX12_cold cX12_cold 2 (some .int) 1 := ⟨wd_1692, wd_114, by decide, by decide, by decide +kernel⟩
theorem mw_X12_saves : Mw yX12_saves cX12_saves 2 (some .int) 1 := ⟨wd_1696, wd_114, by decide, by decide, by decide +kernel⟩
theorem mw_X12_savesOf : Mw yX12_savesOf cX12_savesOf 2 (some .int) 1 := ⟨wd_1700, wd_114, by decide, by decide, by decide +kernel⟩
theorem mw_X12_lossOf : Mw yX12_lossOf cX12_lossOf 3 (some .int) 2 := ⟨wd_1704, wd_114, by decide, by decide, by decide +kernel⟩
theorem mw_X12_first : Mw yX12_first cX12_first 3 (some .int) 0 := ⟨wd_1709, wd_114, by decide, by decide, by decide +kernel⟩
theorem mw_X12_far : Mw yX12_far cX12_far 3 (some .int) 2 := ⟨wd_1713, wd_114, by decide, by decide, by decide +kernel⟩
theorem mw_X12_farOf : Mw yX12_farOf cX12_farOf 3 (some .int) 2 := ⟨wd_1717, wd_114, by decide, by decide, by decide +kernel⟩
theorem mw_X12_off : Mw yX12_off cX12_off 2 (some .int) 2 := ⟨wd_1720, wd_114, by decide, by decide, by decide +kernel⟩
theorem mw_X12_round : Mw yX12_round cX12_round 2 (some .int) 1 := ⟨wd_1724, wd_114, by decide, by decide, by decide +kernel⟩
theorem mw_X12_fillsRest : Mw yX12_fillsRest cX12_fillsRest 5 none 0 := ⟨wd_1728, wd_114, by decide, by decide, by decide +kernel⟩
theorem mw_X12_restWith : Mw yX12_restWith cX12_restWith 4 (some .int) 3 := ⟨wd_1732, wd_114, by decide, by decide, by decide +kernel⟩
theorem mw_X12_next : Mw yX12_next cX12_next 7 (some .int) 2 := ⟨wd_1736, wd_114, by decide, by decide, by decide +kernel⟩
theorem mw_X12_pipes : Mw yX12_pipes cX12_pipes 6 (some .int) 0 := ⟨wd_1740, wd_114, by decide, by decide, by decide +kernel⟩
theorem mw_X12_nearestIn : Mw yX12_nearestIn cX12_nearestIn 5 (some .int) 2 := ⟨wd_1744, wd_114, by decide, by decide, by decide +kernel⟩
theorem mw_X12_nearest : Mw yX12_nearest cX12_nearest 2 (some .int) 1 := ⟨wd_1748, wd_114, by decide, by decide, by decide +kernel⟩
theorem mw_X12_twins : Mw yX12_twins cX12_twins 6 (some .int) 1 := ⟨wd_1752, wd_114, by decide, by decide, by decide +kernel⟩
theorem mw_X12_unlike : Mw yX12_unlike cX12_unlike 3 (some .int) 2 := ⟨wd_1756, wd_114, by decide, by decide, by decide +kernel⟩
theorem mw_X12_draughty : Mw yX12_draughty cX12_draughty 4 (some .int) 1 := ⟨wd_1760, wd_114, by decide, by decide, by decide +kernel⟩
theorem mw_X12_roofs : Mw yX12_roofs cX12_roofs 7 (some .int) 1 := ⟨wd_1764, wd_114, by decide, by decide, by decide +kernel⟩
theorem mw_X12_roofsBy : Mw yX12_roofsBy cX12_roofsBy 6 (some .int) 1 := ⟨wd_1768, wd_114, by decide, by decide, by decide +kernel⟩
theorem mw_X12_paired : Mw yX12_paired cX12_paired 5 (some .int) 1 := ⟨wd_1772, wd_114, by decide, by decide, by decide +kernel⟩
theorem mw_X12_fillsPaired : Mw yX12_fillsPaired cX12_fillsPaired 5 none 0 := ⟨wd_1776, wd_114, by decide, by decide, by decide +kernel⟩
theorem mw_X12_lowestOf : Mw yX12_lowestOf cX12_lowestOf 2 (some .int) 1 := ⟨wd_1779, wd_114, by decide, by decide, by decide +kernel⟩
theorem mw_X12_pairedWith : Mw yX12_pairedWith cX12_pairedWith 4 (some .int) 3 := ⟨wd_1783, wd_114, by decide, by decide, by decide +kernel⟩
theorem mw_X12_pairedOf : Mw yX12_pairedOf cX12_pairedOf 5 (some .int) 1 := ⟨wd_1787, wd_114, by decide, by decide, by decide +kernel⟩
theorem mw_X12_summers : Mw yX12_summers cX12_summers 4 (some .int) 1 := ⟨wd_1791, wd_114, by decide, by decide, by decide +kernel⟩
theorem mw_X12_then : Mw yX12_then cX12_then 4 (some .int) 3 := ⟨wd_1795, wd_114, by decide, by decide, by decide +kernel⟩
theorem mw_X12_year : Mw yX12_year cX12_year 6 (some .int) 3 := ⟨wd_1799, wd_114, by decide, by decide, by decide +kernel⟩
theorem mw_X12_tell : Mw yX12_tell cX12_tell 4 (some .int) 3 := ⟨wd_1803, wd_114, by decide, by decide, by decide +kernel⟩
theorem mw_X12_forget : Mw yX12_forget cX12_forget 2 (some .int) 0 := ⟨wd_1807, wd_114, by decide, by decide, by decide +kernel⟩
theorem mw_X12_whose : Mw yX12_whose cX12_whose 4 (some .int) 2 := ⟨wd_1811, wd_114, by decide, by decide, by decide +kernel⟩
theorem mw_X12_whoseBits : Mw yX12_whoseBits cX12_whoseBits 6 (some .int) 1 := ⟨wd_1815, wd_114, by decide, by decide, by decide +kernel⟩
theorem mw_X12_markOf : Mw yX12_markOf cX12_markOf 3 (some .int) 2 := ⟨wd_1819, wd_114, by decide, by decide, by decide +kernel⟩
theorem mw_X12_bits : Mw yX12_bits cX12_bits 3 (some .int) 1 := ⟨wd_1822, wd_114, by decide, by decide, by decide +kernel⟩
theorem mw_X12_look : Mw yX12_look cX12_look 9 (some .int) 2 := ⟨wd_1826, wd_114, by decide, by decide, by decide +kernel⟩
theorem mw_X12_hold : Mw yX12_hold cX12_hold 3 (some .boolean) 1 := ⟨wd_1830, wd_114, by decide, by decide, by decide +kernel⟩
theorem mw_X12_restore : Mw yX12_restore cX12_restore 3 (some .boolean) 1 := ⟨wd_1834, wd_114, by decide, by decide, by decide +kernel⟩
theorem mw_X12_count : Mw yX12_count cX12_count 4 (some .int) 1 := ⟨wd_1838, wd_114, by decide, by decide, by decide +kernel⟩
theorem mw_X12_sumNow : Mw yX12_sumNow cX12_sumNow 4 (some .int) 1 := ⟨wd_1842, wd_114, by decide, by decide, by decide +kernel⟩
theorem mw_X12_noneBits : Mw yX12_noneBits cX12_noneBits 4 (some .int) 1 := ⟨wd_1846, wd_114, by decide, by decide, by decide +kernel⟩
