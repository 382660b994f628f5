def fJ6_bitCount_0f7a4 (x0 : Int32) : Option Int32 :=
  bd (x0 - ((ushr x0 1) &&& 1431655765)) (fun y1 => bd ((y1 &&& 858993459) + ((ushr y1 2) &&& 858993459)) (fun y3 => bd ((y3 + (ushr y3 4)) &&& 252645135) (fun y5 => bd (y5 + (ushr y5 8)) (fun y7 => bd (y7 + (ushr y7 16)) (fun y9 => some (y9 &&& 63))))))
def fX7_copyFrom (q : Nat) (q1 : Nat) (μ : Mem) : Option Mem :=
  gd (cpo 0 0 42 42 42) (bd (upA μ (q + 1) (va_cpy (μ.1 (q1 + 1)) (μ.1 (q + 1)) (0 : Int32).toNatClampNeg (0 : Int32).toNatClampNeg (42 : Int32).toNatClampNeg)) (fun μ2 => bd (upI μ2 q 1 (μ2.1 q1 1)) (fun μ4 => bd (upI μ4 q 2 (μ4.1 q1 2)) (fun μ6 => bd (upI μ6 q 3 (μ6.1 q1 3)) (fun μ8 => bd (upI μ8 q 4 (μ8.1 q1 4)) (fun μ10 => some μ10))))))
def fX7_get (q : Nat) (x1 : Int32) (x2 : Int32) (μ : Mem) : Option Int32 :=
  bd ((x1 * 7) + x2) (fun y1 => (if y1 < 0 then some 0 else (if 42 ≤ y1 then some 0 else gd (ix y1 42) (some (μ.1 (q + 1) y1.toNatClampNeg)))))
def fX1_joined (x0 : Int32) (x1 : Int32) (x2 : Int32) : Option Int32 :=
  (if x0 = 10 then some (x1 + x2) else (if x0 = 11 then some (x1 - x2) else (if x0 = 12 then some (x1 * x2) else (if x2 = 0 then some 0 else gd (dz x2) (some (x1 / x2))))))
def fX1_valueOf_b240 (rec : Int32 → Int32 → Mem → Option (Int32 × Mem)) (K : Int32 → Mem → Option (Int32 × Mem)) (q : Nat) (q2 : Nat) (x3 : Int32) (x4 : Int32) (x6 : Int32) (x7 : Int32) (x8 : Int32) (x9 : Int32) (μ : Mem) : Option (Int32 × Mem) :=
  b1 (fX1_joined x7 x8 x9) (fun r11 => gd (ix x4 32) (bd (upI μ (q + 4) x4.toNatClampNeg r11) (fun μ13 => rec (x4 + 1) (x6 + 1) μ13)))
def fX1_valueOf_b97 (rec : Int32 → Int32 → Mem → Option (Int32 × Mem)) (K : Int32 → Mem → Option (Int32 × Mem)) (q : Nat) (q2 : Nat) (x3 : Int32) (x4 : Int32) (x6 : Int32) (x7 : Int32) (k0 : Int32) (μ : Mem) : Option (Int32 × Mem) :=
  (if 7 ≤ x7 then gd (ix x4 32) (bd (upI μ (q + 4) x4.toNatClampNeg k0) (fun μ20 => rec (x4 + 1) (x6 + 1) μ20)) else b1 (fX7_get q2 x3 x7 μ) (fun r23 => gd (ix x4 32) (bd (upI μ (q + 4) x4.toNatClampNeg r23) (fun μ25 => rec (x4 + 1) (x6 + 1) μ25))))
def fX1_valueOf_s31 (rec : Int32 → Int32 → Mem → Option (Int32 × Mem)) (K : Int32 → Mem → Option (Int32 × Mem)) (q : Nat) (q2 : Nat) (x3 : Int32) (x4 : Int32) (x6 : Int32) (μ : Mem) : Option (Int32 × Mem) :=
  (if (μ.1 q 4) ≤ x6 then some (0, μ) else gd (ix x6 416) (bd (μ.1 (q + 1) x6.toNatClampNeg) (fun y2 => (if 9 < y2 then (if y2 = 15 then K x4 μ else (if 2 ≤ x4 then gd (ix (x4 + (-2)) 32) (bd (μ.1 (q + 4) ((x4 + (-2)).toNatClampNeg)) (fun y5 => gd (ix ((x4 + (-2)) + 1) 32) (bd (μ.1 (q + 4) (((x4 + (-2)) + 1).toNatClampNeg)) (fun y8 => (if y2 = 14 then (if y8 ≤ y5 then gd (ix x6 416) (bd (jmax x6 ((μ.1 (q + 2) x6.toNatClampNeg) - 1)) (fun y16 => rec (x4 + (-2)) (y16 + 1) μ)) else rec (x4 + (-2)) (x6 + 1) μ) else (if y2 = 13 then (if y8 = 0 then some (0, μ) else fX1_valueOf_b240 rec K q q2 x3 (x4 + (-2)) x6 y2 y5 y8 μ) else fX1_valueOf_b240 rec K q q2 x3 (x4 + (-2)) x6 y2 y5 y8 μ)))))) else some (0, μ))) else (if x4 < 32 then (if y2 = 7 then fX1_valueOf_b97 rec K q q2 x3 x4 x6 y2 (μ.1 q2 1) μ else (if y2 = 8 then fX1_valueOf_b97 rec K q q2 x3 x4 x6 y2 x3 μ else gd (ix x6 416) (fX1_valueOf_b97 rec K q q2 x3 x4 x6 y2 (μ.1 (q + 2) x6.toNatClampNeg) μ))) else some (0, μ))))))
def fX1_valueOf_l31 (K : Int32 → Mem → Option (Int32 × Mem)) (q : Nat) (q2 : Nat) (x3 : Int32) : Nat → Int32 → Int32 → Mem → Option (Int32 × Mem)
  | 0, _, _, _ => none
  | n + 1, x4, x6, μ => fX1_valueOf_s31 (fX1_valueOf_l31 K q q2 x3 n) K q q2 x3 x4 x6 μ
def fX1_valueOf_b25 (q : Nat) (q2 : Nat) (x3 : Int32) (x4 : Int32) (k0 : Int32) (μ : Mem) : Option (Int32 × Mem) :=
  fX1_valueOf_l31 (fun y27 μ28 => (if y27 ≤ 0 then some (0, μ28) else gd (ix (y27 - 1) 32) (some (μ28.1 (q + 4) ((y27 - 1).toNatClampNeg), μ28)))) q q2 x3 FU x4 k0 μ
def fX1_valueOf_b21 (q : Nat) (q2 : Nat) (x3 : Int32) (x4 : Int32) (μ : Mem) : Option (Int32 × Mem) :=
  fX1_valueOf_b25 q q2 x3 x4 (μ.1 q 4) μ
def fX1_valueOf (q : Nat) (x1 : Int32) (q2 : Nat) (x3 : Int32) (μ : Mem) : Option (Int32 × Mem) :=
  (if x1 < 0 then fX1_valueOf_b21 q q2 x3 0 μ else (if 4 ≤ x1 then fX1_valueOf_b21 q q2 x3 0 μ else gd (ix x1 4) (fX1_valueOf_b25 q q2 x3 0 (μ.1 (q + 3) x1.toNatClampNeg) μ)))
def fX7_set (q : Nat) (x1 : Int32) (x2 : Int32) (x3 : Int32) (μ : Mem) : Option Mem :=
  bd ((x1 * 7) + x2) (fun y1 => (if y1 < 0 then some μ else (if 42 ≤ y1 then some μ else gd (ix y1 42) (bd (upI μ (q + 1) y1.toNatClampNeg x3) (fun μ4 => some μ4)))))
def fX7_sumOf_s4 (rec : Int32 → Int32 → Option Int32) (q : Nat) (x1 : Int32) (x2 : Int32) (x3 : Int32) (μ : Mem) : Option Int32 :=
  (if 6 ≤ x3 then some x2 else b1 (fX7_get q x3 x1 μ) (fun r2 => bd (x2 + r2) (fun y3 => rec y3 (x3 + 1))))
def fX7_sumOf_l4 (q : Nat) (x1 : Int32) (μ : Mem) : Nat → Int32 → Int32 → Option Int32
  | 0, _, _ => none
  | n + 1, x2, x3 => fX7_sumOf_s4 (fX7_sumOf_l4 q x1 μ n) q x1 x2 x3 μ
def fX7_sumOf (q : Nat) (x1 : Int32) (μ : Mem) : Option Int32 :=
  fX7_sumOf_l4 q x1 μ FU 0 0
def fX7_bitsOf_s6 (rec : Int32 → Int32 → Option Int32) (q : Nat) (x1 : Int32) (x2 : Int32) (x3 : Int32) (x4 : Int32) (x5 : Int32) (μ : Mem) : Option Int32 :=
  (if x3 ≤ x5 then some x4 else b1 (fX7_get q x5 x1 μ) (fun r2 => (if r2 = x2 then bd (x4 ||| (1 <<< (x5 &&& 31))) (fun y3 => rec y3 (x5 + 1)) else rec x4 (x5 + 1))))
def fX7_bitsOf_l6 (q : Nat) (x1 : Int32) (x2 : Int32) (x3 : Int32) (μ : Mem) : Nat → Int32 → Int32 → Option Int32
  | 0, _, _ => none
  | n + 1, x4, x5 => fX7_bitsOf_s6 (fX7_bitsOf_l6 q x1 x2 x3 μ n) q x1 x2 x3 x4 x5 μ
def fX7_bitsOf (q : Nat) (x1 : Int32) (x2 : Int32) (x3 : Int32) (μ : Mem) : Option Int32 :=
  fX7_bitsOf_l6 q x1 x2 x3 μ FU 0 0
def fX7_keptApart (q : Nat) (x1 : Int32) (x2 : Int32) (μ : Mem) : Option Int32 :=
  b1 (fX7_get q x1 3 μ) (fun r2 => b1 (fX7_get q x2 3 μ) (fun r4 => some (jabs (r2 - r4))))
