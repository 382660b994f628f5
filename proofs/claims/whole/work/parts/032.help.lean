def ushr (x y : Int32) : Int32 := (x.toUInt32 >>> (y.toUInt32 &&& Int32.toUInt32 31)).toInt32
def jmin (x y : Int32) : Int32 := if y < x then y else x
def jmax (x y : Int32) : Int32 := if x < y then y else x
def jabs (x : Int32) : Int32 := if 0 ≤ x then x else 0 - x
theorem rm_ok {d d' ny : Nat} (h : d + 1 ≤ d') (h2 : ny ≤ 45) : d + 1 ≤ (rmd d').frames ∧ 8 + (ny + 11) + 64 * d ≤ (rmd d').locals := ⟨h, by show _ ≤ 64 * d'; omega⟩
theorem rm_1 {D k : Nat} (h : 10 ≤ D) : 1 ≤ (rmd (D + k)).frames := by show 1 ≤ D + k; omega
theorem rm_13 {D k n : Nat} (h : 10 ≤ D) (hn : n + 13 ≤ 64) : n + 13 ≤ (rmd (D + k)).locals := by show _ ≤ 64 * (D + k); omega
theorem rm_cp {D k n : Nat} (h : 10 ≤ D) (hn : n ≤ 64) : n ≤ (rmd (D + k)).locals := by show _ ≤ 64 * (D + k); omega
