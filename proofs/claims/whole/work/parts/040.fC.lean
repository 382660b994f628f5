def fJ6_bitCount_0f7a4 (x0 : Int32) : Option Int32 :=
  bd (x0 - ((ushr x0 1) &&& 1431655765)) (fun y1 => bd ((y1 &&& 858993459) + ((ushr y1 2) &&& 858993459)) (fun y3 => bd ((y3 + (ushr y3 4)) &&& 252645135) (fun y5 => bd (y5 + (ushr y5 8)) (fun y7 => bd (y7 + (ushr y7 16)) (fun y9 => some (y9 &&& 63))))))
def fX0_clearAll_s7 (rec : Int32 → Mem → Option Mem) (x1 : Int32) (μ : Mem) : Option Mem :=
  (if 3 ≤ x1 then some μ else gd (ix x1 3) (bd (upI μ 119 x1.toNatClampNeg 0) (fun μ4 => rec (x1 + 1) μ4)))
def fX0_clearAll_l7 : Nat → Int32 → Mem → Option Mem
  | 0, _, _ => none
  | n + 1, x1, μ => fX0_clearAll_s7 (fX0_clearAll_l7 n) x1 μ
def fX0_clearAll (μ : Mem) : Option Mem :=
  bd (upI μ 30 4 0) (fun μ1 => fX0_clearAll_l7 FU 0 μ1)
def fX7_copyFrom (q : Nat) (q1 : Nat) (μ : Mem) : Option Mem :=
  gd (cpo 0 0 42 42 42) (bd (upA μ (q + 1) (va_cpy (μ.1 (q1 + 1)) (μ.1 (q + 1)) (0 : Int32).toNatClampNeg (0 : Int32).toNatClampNeg (42 : Int32).toNatClampNeg)) (fun μ2 => bd (upI μ2 q 1 (μ2.1 q1 1)) (fun μ4 => bd (upI μ4 q 2 (μ4.1 q1 2)) (fun μ6 => bd (upI μ6 q 3 (μ6.1 q1 3)) (fun μ8 => bd (upI μ8 q 4 (μ8.1 q1 4)) (fun μ10 => some μ10))))))
def fX0_fetch (x1 : Int32) (q2 : Nat) (μ : Mem) : Option (Int32 × Mem) :=
  (if x1 < 0 then some (0, μ) else (if 3 ≤ x1 then some (0, μ) else gd (ix x1 3) ((if (μ.1 119 x1.toNatClampNeg) = 0 then some (0, μ) else gd (ix x1 3) (b1 (fX7_copyFrom q2 (112 + 1 + 2 * x1.toNatClampNeg) μ) (fun μ4 => bd (upI μ4 30 4 0) (fun μ5 => some (1, μ5))))))))
def fX0_heldSlots_s4 (rec : Int32 → Int32 → Option Int32) (x1 : Int32) (x2 : Int32) (μ : Mem) : Option Int32 :=
  (if 3 ≤ x2 then some x1 else gd (ix x2 3) ((if (μ.1 119 x2.toNatClampNeg) = 0 then rec x1 (x2 + 1) else rec (x1 + 1) (x2 + 1))))
def fX0_heldSlots_l4 (μ : Mem) : Nat → Int32 → Int32 → Option Int32
  | 0, _, _ => none
  | n + 1, x1, x2 => fX0_heldSlots_s4 (fX0_heldSlots_l4 μ n) x1 x2 μ
def fX0_heldSlots (μ : Mem) : Option Int32 :=
  fX0_heldSlots_l4 μ FU 0 0
def fX0_keep (x1 : Int32) (q2 : Nat) (μ : Mem) : Option (Int32 × Mem) :=
  (if x1 < 0 then some (0, μ) else (if x1 < 3 then gd (ix x1 3) (b1 (fX7_copyFrom (112 + 1 + 2 * x1.toNatClampNeg) q2 μ) (fun μ3 => gd (ix x1 3) (bd (upI μ3 119 x1.toNatClampNeg 1) (fun μ5 => some (1, μ5))))) else some (0, μ)))
def fX0_pop_b42 (q1 : Nat) (k1 : Int32) (μ : Mem) : Option (Int32 × Mem) :=
  bd (upI μ 30 3 k1) (fun μ4 => bd (upI μ4 30 4 ((μ4.1 30 4) - 1)) (fun μ6 => some (1, μ6)))
def fX0_pop (q1 : Nat) (μ : Mem) : Option (Int32 × Mem) :=
  (if 1 ≤ (μ.1 30 4) then gd (ix (μ.1 30 3) 40) (b1 (fX7_copyFrom q1 (31 + 1 + 2 * ((μ.1 30 3).toNatClampNeg)) μ) (fun μ3 => (if (μ3.1 30 3) ≤ 0 then fX0_pop_b42 q1 39 μ3 else fX0_pop_b42 q1 ((μ3.1 30 3) - 1) μ3))) else some (0, μ))
def fX0_push_b22 (q1 : Nat) (k1 : Int32) (μ : Mem) : Option Mem :=
  bd (upI μ 30 3 k1) (fun μ1 => gd (ix (μ1.1 30 3) 40) (b1 (fX7_copyFrom (31 + 1 + 2 * ((μ1.1 30 3).toNatClampNeg)) q1 μ1) (fun μ5 => bd (upI μ5 30 4 (jmin 40 ((μ5.1 30 4) + 1))) (fun μ6 => some μ6))))
def fX0_push (q1 : Nat) (μ : Mem) : Option Mem :=
  (if 40 ≤ ((μ.1 30 3) + 1) then fX0_push_b22 q1 0 μ else fX0_push_b22 q1 ((μ.1 30 3) + 1) μ)
def fX3_number (q : Nat) (x1 : Int32) (x2 : Int32) (μ : Mem) : Option Int32 :=
  bd ((x1 * 5) + x2) (fun y1 => (if y1 < 0 then some 0 else (if 30 ≤ y1 then some 0 else gd (ix y1 30) (some (μ.1 (q + 1) y1.toNatClampNeg)))))
def fX3_xOf (q : Nat) (x1 : Int32) (μ : Mem) : Option Int32 :=
  b1 (fX3_number q x1 3 μ) (fun r2 => some r2)
def fX3_yOf (q : Nat) (x1 : Int32) (μ : Mem) : Option Int32 :=
  b1 (fX3_number q x1 4 μ) (fun r2 => some r2)
def fX3_distance (q : Nat) (x1 : Int32) (x2 : Int32) (μ : Mem) : Option Int32 :=
  b1 (fX3_xOf q x1 μ) (fun r2 => b1 (fX3_xOf q x2 μ) (fun r4 => b1 (fX3_yOf q x1 μ) (fun r6 => b1 (fX3_yOf q x2 μ) (fun r8 => some ((jabs (r2 - r4)) + (jabs (r6 - r8)))))))
def fX10_goOn_b14 (go : Nat → Int32 → Int32 → Int32 → Mem → Option Mem) (q1 : Nat) (x4 : Int32) (μ : Mem) : Option Mem :=
  (if (μ.1 177 2) ≤ x4 then some μ else bd (upI μ 177 2 x4) (fun μ1 => gd (cpo 0 0 6 6 6) (bd (upA μ1 179 (va_cpy (μ1.1 178) (μ1.1 179) (0 : Int32).toNatClampNeg (0 : Int32).toNatClampNeg (6 : Int32).toNatClampNeg)) (fun μ4 => some μ4))))
def fX10_goOn_s48 (go : Nat → Int32 → Int32 → Int32 → Mem → Option Mem) (rec : Int32 → Mem → Option Mem) (q1 : Nat) (x2 : Int32) (x3 : Int32) (x4 : Int32) (x5 : Int32) (μ : Mem) : Option Mem :=
  (if (μ.1 q1 2) ≤ x5 then some μ else (if ((x3 >>> (x5 &&& 31)) &&& 1) = 0 then gd (ix x2 6) (bd (upI μ 178 x2.toNatClampNeg x5) (fun μ7 => gd (ix (x2 - 1) 6) (b1 (fX3_distance q1 (μ7.1 178 ((x2 - 1).toNatClampNeg)) x5 μ7) (fun r11 => b1 (go q1 (x2 + 1) (x3 ||| ((1 : Int32) <<< (x5 &&& 31))) (x4 + r11) μ7) (fun μ13 => rec (x5 + 1) μ13))))) else rec (x5 + 1) μ))
def fX10_goOn_l48 (go : Nat → Int32 → Int32 → Int32 → Mem → Option Mem) (q1 : Nat) (x2 : Int32) (x3 : Int32) (x4 : Int32) : Nat → Int32 → Mem → Option Mem
  | 0, _, _ => none
  | n + 1, x5, μ => fX10_goOn_s48 go (fX10_goOn_l48 go q1 x2 x3 x4 n) q1 x2 x3 x4 x5 μ
def fX10_goOn_b (go : Nat → Int32 → Int32 → Int32 → Mem → Option Mem) (q1 : Nat) (x2 : Int32) (x3 : Int32) (x4 : Int32) (μ : Mem) : Option Mem :=
  (if (μ.1 q1 2) ≤ x2 then fX10_goOn_b14 go q1 x4 μ else (if x2 < 6 then fX10_goOn_l48 go q1 x2 x3 x4 FU 0 μ else fX10_goOn_b14 go q1 x4 μ))
def fX10_goOn : Nat → Nat → Int32 → Int32 → Int32 → Mem → Option Mem
  | 0, _, _, _, _, _ => none
  | n + 1, q1, x2, x3, x4, μ => fX10_goOn_b (fX10_goOn n) q1 x2 x3 x4 μ
def fX10_search (q1 : Nat) (x2 : Int32) (μ : Mem) : Option Mem :=
  bd (upI μ 177 2 1000000) (fun μ1 => bd (upI μ1 178 0 x2) (fun μ3 => b1 (fX10_goOn 8 q1 1 ((1 : Int32) <<< (x2 &&& 31)) 0 μ3) (fun μ6 => some μ6)))
def fX11_back (x1 : Int32) (μ : Mem) : Option (Int32 × Mem) :=
  (if x1 < 0 then some ((-1), μ) else (if x1 ≤ (μ.1 1 15) then bd (upI μ 1 15 ((μ.1 1 15) - x1)) (fun μ1 => some (μ1.1 1 15, μ1)) else some ((-1), μ)))
def fX11_bring (x1 : Int32) (μ : Mem) : Option (Int32 × Mem) :=
  (if x1 < 1 then some ((-1), μ) else (if x1 ≤ 99 then b1 (fX0_push 24 μ) (fun μ2 => bd (upI μ2 24 2 (jmin 9999 ((μ2.1 24 2) + x1))) (fun μ3 => some (μ3.1 24 2, μ3))) else some ((-1), μ)))
def fX11_isHouse (x1 : Int32) (μ : Mem) : Option Int32 :=
  (if x1 < 0 then some 0 else (if (μ.1 17 2) ≤ x1 then some 0 else some 1))
def fX7_get (q : Nat) (x1 : Int32) (x2 : Int32) (μ : Mem) : Option Int32 :=
  bd ((x1 * 7) + x2) (fun y1 => (if y1 < 0 then some 0 else (if 42 ≤ y1 then some 0 else gd (ix y1 42) (some (μ.1 (q + 1) y1.toNatClampNeg)))))
def fX1_joined (x0 : Int32) (x1 : Int32) (x2 : Int32) : Option Int32 :=
  (if x0 = 10 then some (x1 + x2) else (if x0 = 11 then some (x1 - x2) else (if x0 = 12 then some (x1 * x2) else (if x2 = 0 then some 0 else gd (dz x2) (some (x1 / x2))))))
def fX1_valueOf_b240 (rec : Int32 → Int32 → Mem → Option (Int32 × Mem)) (K : Int32 → Mem → Option (Int32 × Mem)) (q : Nat) (q2 : Nat) (x3 : Int32) (x4 : Int32) (x6 : Int32) (x7 : Int32) (x8 : Int32) (x9 : Int32) (μ : Mem) : Option (Int32 × Mem) :=
  b1 (fX1_joined x7 x8 x9) (fun r11 => gd (ix x4 32) (bd (upI μ (q + 4) x4.toNatClampNeg r11) (fun μ13 => rec (x4 + 1) (x6 + 1) μ13)))
def fX1_valueOf_b97 (rec : Int32 → Int32 → Mem → Option (Int32 × Mem)) (K : Int32 → Mem → Option (Int32 × Mem)) (q : Nat) (q2 : Nat) (x3 : Int32) (x4 : Int32) (x6 : Int32) (x7 : Int32) (k0 : Int32) (μ : Mem) : Option (Int32 × Mem) :=
  (if 7 ≤ x7 then gd (ix x4 32) (bd (upI μ (q + 4) x4.toNatClampNeg k0) (fun μ20 => rec (x4 + 1) (x6 + 1) μ20)) else b1 (fX7_get q2 x3 x7 μ) (fun r23 => gd (ix x4 32) (bd (upI μ (q + 4) x4.toNatClampNeg r23) (fun μ25 => rec (x4 + 1) (x6 + 1) μ25))))
def fX1_valueOf_s31 (rec : Int32 → Int32 → Mem → Option (Int32 × Mem)) (K : Int32 → Mem → Option (Int32 × Mem)) (q : Nat) (q2 : Nat) (x3 : Int32) (x4 : Int32) (x6 : Int32) (μ : Mem) : Option (Int32 × Mem) :=
  (if (μ.1 q 4) ≤ x6 then some (0, μ) else gd (ix x6 416) (bd (μ.1 (q + 1) x6.toNatClampNeg) (fun y2 => (if 9 < y2 then (if y2 = 15 then K x4 μ else (if 2 ≤ x4 then gd (ix (x4 + (-2)) 32) (bd (μ.1 (q + 4) ((x4 + (-2)).toNatClampNeg)) (fun y5 => gd (ix ((x4 + (-2)) + 1) 32) (bd (μ.1 (q + 4) (((x4 + (-2)) + 1).toNatClampNeg)) (fun y8 => (if y2 = 14 then (if y8 ≤ y5 then gd (ix x6 416) (bd (jmax x6 ((μ.1 (q + 2) x6.toNatClampNeg) - 1)) (fun y16 => rec (x4 + (-2)) (y16 + 1) μ)) else rec (x4 + (-2)) (x6 + 1) μ) else (if y2 = 13 then (if y8 = 0 then some (0, μ) else fX1_valueOf_b240 rec K q q2 x3 (x4 + (-2)) x6 y2 y5 y8 μ) else fX1_valueOf_b240 rec K q q2 x3 (x4 + (-2)) x6 y2 y5 y8 μ)))))) else some (0, μ))) else (if x4 < 32 then (if y2 = 7 then fX1_valueOf_b97 rec K q q2 x3 x4 x6 y2 (μ.1 q2 1) μ else (if y2 = 8 then fX1_valueOf_b97 rec K q q2 x3 x4 x6 y2 x3 μ else gd (ix x6 416) (fX1_valueOf_b97 rec K q q2 x3 x4 x6 y2 (μ.1 (q + 2) x6.toNatClampNeg) μ))) else some (0, μ))))))
def fX1_valueOf_l31 (K : Int32 → Mem → Option (Int32 × Mem)) (q : Nat) (q2 : Nat) (x3 : Int32) : Nat → Int32 → Int32 → Mem → Option (Int32 × Mem)
  | 0, _, _, _ => none
  | n + 1, x4, x6, μ => fX1_valueOf_s31 (fX1_valueOf_l31 K q q2 x3 n) K q q2 x3 x4 x6 μ
def fX1_valueOf_b25 (q : Nat) (q2 : Nat) (x3 : Int32) (x4 : Int32) (k0 : Int32) (μ : Mem) : Option (Int32 × Mem) :=
  fX1_valueOf_l31 (fun y27 μ28 => (if y27 ≤ 0 then some (0, μ28) else gd (ix (y27 - 1) 32) (some (μ28.1 (q + 4) ((y27 - 1).toNatClampNeg), μ28)))) q q2 x3 FU x4 k0 μ
def fX1_valueOf_b21 (q : Nat) (q2 : Nat) (x3 : Int32) (x4 : Int32) (μ : Mem) : Option (Int32 × Mem) :=
  fX1_valueOf_b25 q q2 x3 x4 (μ.1 q 4) μ
def fX1_valueOf (q : Nat) (x1 : Int32) (q2 : Nat) (x3 : Int32) (μ : Mem) : Option (Int32 × Mem) :=
  (if x1 < 0 then fX1_valueOf_b21 q q2 x3 0 μ else (if 4 ≤ x1 then fX1_valueOf_b21 q q2 x3 0 μ else gd (ix x1 4) (fX1_valueOf_b25 q q2 x3 0 (μ.1 (q + 3) x1.toNatClampNeg) μ)))
def fX3_warms (q : Nat) (q1 : Nat) (x2 : Int32) (μ : Mem) : Option (Int32 × Mem) :=
  b2 (fX1_valueOf (q + 2) 1 q1 x2 μ) (fun r3 μ2 => some (jmax 0 (jmin 99 r3), μ2))
def fX7_set (q : Nat) (x1 : Int32) (x2 : Int32) (x3 : Int32) (μ : Mem) : Option Mem :=
  bd ((x1 * 7) + x2) (fun y1 => (if y1 < 0 then some μ else (if 42 ≤ y1 then some μ else gd (ix y1 42) (bd (upI μ (q + 1) y1.toNatClampNeg x3) (fun μ4 => some μ4)))))
def fX3_burnIn_s3 (rec : Int32 → Mem → Option Mem) (q : Nat) (q1 : Nat) (x2 : Int32) (x3 : Int32) (x4 : Int32) (μ : Mem) : Option Mem :=
  (if x3 ≤ x4 then some μ else b1 (fX7_get q1 x2 2 μ) (fun r2 => b2 (fX3_warms q q1 x2 μ) (fun r5 μ4 => bd (r2 + r5) (fun y6 => b1 (fX7_set q1 x2 2 (jmin 999 y6) μ4) (fun μ9 => b1 (fX7_get q1 x2 6 μ9) (fun r11 => b1 (fX7_set q1 x2 6 (r11 + 1) μ9) (fun μ13 => bd (upI μ13 q1 2 ((μ13.1 q1 2) - 1)) (fun μ14 => bd (upI μ14 q1 3 ((μ14.1 q1 3) + 1)) (fun μ16 => rec (x4 + 1) μ16)))))))))
def fX3_burnIn_l3 (q : Nat) (q1 : Nat) (x2 : Int32) (x3 : Int32) : Nat → Int32 → Mem → Option Mem
  | 0, _, _ => none
  | n + 1, x4, μ => fX3_burnIn_s3 (fX3_burnIn_l3 q q1 x2 x3 n) q q1 x2 x3 x4 μ
def fX3_burnIn (q : Nat) (q1 : Nat) (x2 : Int32) (x3 : Int32) (μ : Mem) : Option Mem :=
  fX3_burnIn_l3 q q1 x2 x3 FU 0 μ
def fX11_burn (x1 : Int32) (x2 : Int32) (μ : Mem) : Option (Int32 × Mem) :=
  b1 (fX11_isHouse x1 μ) (fun r2 => (if r2 = 0 then some ((-1), μ) else (if x2 < 1 then some ((-1), μ) else (if 99 < x2 then some ((-1), μ) else (if x2 ≤ (μ.1 24 2) then b1 (fX0_push 24 μ) (fun μ4 => b1 (fX3_burnIn 17 24 x1 x2 μ4) (fun μ6 => b1 (fX7_get 24 x1 2 μ6) (fun r8 => some (r8, μ6)))) else some ((-1), μ))))))
def fX3_fades (q : Nat) (q1 : Nat) (x2 : Int32) (μ : Mem) : Option (Int32 × Mem) :=
  b1 (fX7_get q1 x2 3 μ) (fun r2 => b2 (fX1_valueOf (q + 2) 2 q1 x2 μ) (fun r5 μ4 => some (jmax 0 (jmin r2 r5), μ4)))
def fX11_coalsNeeded_s10 (rec : Int32 → Mem → Option (Int32 × Mem)) (q1 : Nat) (x2 : Int32) (x3 : Int32) (μ : Mem) : Option (Int32 × Mem) :=
  (if 30 < x3 then some ((-1), μ) else b2 (fX3_fades 17 28 x2 μ) (fun r5 μ4 => (if r5 = 0 then some (x3, μ4) else b1 (fX3_burnIn 17 28 x2 1 μ4) (fun μ7 => rec (x3 + 1) μ7))))
def fX11_coalsNeeded_l10 (q1 : Nat) (x2 : Int32) : Nat → Int32 → Mem → Option (Int32 × Mem)
  | 0, _, _ => none
  | n + 1, x3, μ => fX11_coalsNeeded_s10 (fX11_coalsNeeded_l10 q1 x2 n) q1 x2 x3 μ
def fX11_coalsNeeded (q1 : Nat) (x2 : Int32) (μ : Mem) : Option (Int32 × Mem) :=
  b1 (fX7_copyFrom 28 q1 μ) (fun μ2 => fX11_coalsNeeded_l10 q1 x2 FU 0 μ2)
def fX3_cools (q : Nat) (q1 : Nat) (x2 : Int32) (μ : Mem) : Option (Int32 × Mem) :=
  b2 (fX1_valueOf (q + 2) 0 q1 x2 μ) (fun r3 μ2 => some (jmax 0 (jmin 99 r3), μ2))
def fX3_timesCooled (q : Nat) (q1 : Nat) (x2 : Int32) (μ : Mem) : Option Int32 :=
  b1 (fX7_get q1 x2 4 μ) (fun r2 => some (1 + r2))
def fX3_passHouse (q : Nat) (q1 : Nat) (x2 : Int32) (μ : Mem) : Option Mem :=
  b2 (fX3_fades q q1 x2 μ) (fun r3 μ2 => b2 (fX3_cools q q1 x2 μ2) (fun r6 μ5 => b1 (fX3_timesCooled q q1 x2 μ5) (fun r8 => bd (r6 * r8) (fun y9 => b1 (fX7_get q1 x2 3 μ5) (fun r12 => b1 (fX7_set q1 x2 3 (r12 - r3) μ5) (fun μ14 => b1 (fX7_get q1 x2 2 μ14) (fun r16 => b1 (fX7_set q1 x2 2 (jmax 0 (r16 - y9)) μ14) (fun μ18 => b1 (fX7_set q1 x2 6 0 μ18) (fun μ20 => some μ20)))))))))
def fX11_daysTillNothing_s13 (rec : Int32 → Mem → Option (Int32 × Mem)) (x1 : Int32) (x2 : Int32) (x3 : Int32) (μ : Mem) : Option (Int32 × Mem) :=
  (if 200 < x3 then some ((-2), μ) else b1 (fX7_get 26 x1 x2 μ) (fun r4 => (if r4 = 0 then some (x3, μ) else b1 (fX3_passHouse 17 26 x1 μ) (fun μ6 => bd (upI μ6 26 1 ((μ6.1 26 1) + 1)) (fun μ7 => rec (x3 + 1) μ7)))))
def fX11_daysTillNothing_l13 (x1 : Int32) (x2 : Int32) : Nat → Int32 → Mem → Option (Int32 × Mem)
  | 0, _, _ => none
  | n + 1, x3, μ => fX11_daysTillNothing_s13 (fX11_daysTillNothing_l13 x1 x2 n) x1 x2 x3 μ
def fX11_daysTillNothing (x1 : Int32) (x2 : Int32) (μ : Mem) : Option (Int32 × Mem) :=
  b1 (fX7_copyFrom 26 24 μ) (fun μ2 => fX11_daysTillNothing_l13 x1 x2 FU 0 μ2)
def fX11_cold (x1 : Int32) (μ : Mem) : Option (Int32 × Mem) :=
  b1 (fX11_isHouse x1 μ) (fun r2 => (if r2 = 0 then some ((-1), μ) else b2 (fX11_daysTillNothing x1 2 μ) (fun r5 μ4 => some (r5, μ4))))
def fX7_sumOf_s4 (rec : Int32 → Int32 → Option Int32) (q : Nat) (x1 : Int32) (x2 : Int32) (x3 : Int32) (μ : Mem) : Option Int32 :=
  (if 6 ≤ x3 then some x2 else b1 (fX7_get q x3 x1 μ) (fun r2 => bd (x2 + r2) (fun y3 => rec y3 (x3 + 1))))
def fX7_sumOf_l4 (q : Nat) (x1 : Int32) (μ : Mem) : Nat → Int32 → Int32 → Option Int32
  | 0, _, _ => none
  | n + 1, x2, x3 => fX7_sumOf_s4 (fX7_sumOf_l4 q x1 μ n) q x1 x2 x3 μ
def fX7_sumOf (q : Nat) (x1 : Int32) (μ : Mem) : Option Int32 :=
  fX7_sumOf_l4 q x1 μ FU 0 0
def fX7_bitsOf_s6 (rec : Int32 → Int32 → Option Int32) (q : Nat) (x1 : Int32) (x2 : Int32) (x3 : Int32) (x4 : Int32) (x5 : Int32) (μ : Mem) : Option Int32 :=
  (if x3 ≤ x5 then some x4 else b1 (fX7_get q x5 x1 μ) (fun r2 => (if r2 = x2 then bd (x4 ||| ((1 : Int32) <<< (x5 &&& 31))) (fun y3 => rec y3 (x5 + 1)) else rec x4 (x5 + 1))))
def fX7_bitsOf_l6 (q : Nat) (x1 : Int32) (x2 : Int32) (x3 : Int32) (μ : Mem) : Nat → Int32 → Int32 → Option Int32
  | 0, _, _ => none
  | n + 1, x4, x5 => fX7_bitsOf_s6 (fX7_bitsOf_l6 q x1 x2 x3 μ n) q x1 x2 x3 x4 x5 μ
def fX7_bitsOf (q : Nat) (x1 : Int32) (x2 : Int32) (x3 : Int32) (μ : Mem) : Option Int32 :=
  fX7_bitsOf_l6 q x1 x2 x3 μ FU 0 0
def fX3_mixed (x0 : Int32) (x1 : Int32) : Option Int32 :=
  bd (((x0 ^^^ x1) * 1103515245) + 12345) (fun y1 => some (y1 ^^^ (ushr y1 15)))
def fX3_lot (x0 : Int32) (x1 : Int32) (x2 : Int32) : Option Int32 :=
  b1 (fX3_mixed x1 177) (fun r2 => b1 (fX3_mixed r2 x2) (fun r4 => (if x0 ≤ 0 then some 0 else gd (dz x0) (some ((ushr r4 1) - (ushr r4 1) / x0 * x0)))))
def fX3_hails (q : Nat) (x1 : Int32) (x2 : Int32) (μ : Mem) : Option Int32 :=
  b1 (fX3_lot 100 x1 (4 * x2)) (fun r2 => (if (μ.1 q 5) ≤ r2 then some 0 else some 1))
def fX11_lossOfAll_s4 (rec : Int32 → Int32 → Mem → Option (Int32 × Mem)) (x1 : Int32) (x2 : Int32) (μ : Mem) : Option (Int32 × Mem) :=
  (if (μ.1 17 2) ≤ x2 then some (x1, μ) else b2 (fX3_fades 17 24 x2 μ) (fun r3 μ2 => bd (x1 + r3) (fun y4 => rec y4 (x2 + 1) μ2)))
def fX11_lossOfAll_l4 : Nat → Int32 → Int32 → Mem → Option (Int32 × Mem)
  | 0, _, _, _ => none
  | n + 1, x1, x2, μ => fX11_lossOfAll_s4 (fX11_lossOfAll_l4 n) x1 x2 μ
def fX11_lossOfAll (μ : Mem) : Option (Int32 × Mem) :=
  fX11_lossOfAll_l4 FU 0 0 μ
def fX11_count (x1 : Int32) (μ : Mem) : Option (Int32 × Mem) :=
  (if x1 = 0 then some (μ.1 17 2, μ) else if x1 = 1 then some (μ.1 24 1, μ) else if x1 = 2 then some (μ.1 24 2, μ) else if x1 = 3 then b1 (fX7_sumOf 24 3 μ) (fun r5 => some (r5, μ)) else if x1 = 4 then b1 (fX7_sumOf 24 2 μ) (fun r8 => some (r8, μ)) else if x1 = 5 then b1 (fX7_sumOf 24 1 μ) (fun r11 => some (r11, μ)) else if x1 = 6 then b1 (fX7_bitsOf 24 4 1 (μ.1 17 2) μ) (fun r14 => some (r14, μ)) else if x1 = 7 then b1 (fX7_bitsOf 24 3 0 (μ.1 17 2) μ) (fun r17 => some (r17, μ)) else if x1 = 8 then some (μ.1 1 15, μ) else if x1 = 9 then some (μ.1 30 4, μ) else if x1 = 10 then some (μ.1 186 3, μ) else if x1 = 11 then b1 (fX0_heldSlots μ) (fun r23 => some (r23, μ)) else if x1 = 12 then b1 (fX3_hails 17 (μ.1 17 6) (μ.1 24 1) μ) (fun r26 => (if r26 = 0 then some (0, μ) else some (1, μ))) else if x1 = 13 then b2 (fX11_lossOfAll μ) (fun r30 μ29 => some (r30, μ29)) else if x1 = 14 then some (μ.1 24 3, μ) else if x1 = 15 then b1 (fX7_sumOf 24 0 μ) (fun r34 => some (r34, μ)) else if x1 = 16 then some (μ.1 24 4, μ) else if x1 = 17 then b1 (fX7_bitsOf 24 2 0 (μ.1 17 2) μ) (fun r38 => some (r38, μ)) else if x1 = 18 then some (μ.1 17 4, μ) else if x1 = 19 then b1 (fX7_sumOf 24 6 μ) (fun r42 => some (r42, μ)) else some ((-1), μ))
def fX11_cut (x1 : Int32) (x2 : Int32) (μ : Mem) : Option (Int32 × Mem) :=
  b1 (fX11_isHouse x1 μ) (fun r2 => (if r2 = 0 then some ((-1), μ) else b1 (fX11_isHouse x2 μ) (fun r4 => (if r4 = 0 then some ((-1), μ) else (if x1 = x2 then some ((-1), μ) else b1 (fX0_push 24 μ) (fun μ6 => b1 (fX7_get 24 x1 3 μ6) (fun r8 => bd (r8 / 10) (fun y9 => b1 (fX7_set 24 x1 3 (r8 - y9) μ6) (fun μ12 => b1 (fX7_get 24 x2 3 μ12) (fun r14 => b1 (fX7_set 24 x2 3 (jmin 999 (r14 + y9)) μ12) (fun μ16 => b1 (fX7_get 24 x2 5 μ16) (fun r18 => b1 (fX7_set 24 x2 5 (r18 + 1) μ16) (fun μ20 => bd (upI μ20 24 4 ((μ20.1 24 4) + 1)) (fun μ21 => some (y9, μ21)))))))))))))))
def fX3_passDay_s2 (rec : Int32 → Mem → Option Mem) (q : Nat) (q1 : Nat) (x2 : Int32) (μ : Mem) : Option Mem :=
  (if (μ.1 q 2) ≤ x2 then some μ else b1 (fX3_passHouse q q1 x2 μ) (fun μ2 => rec (x2 + 1) μ2))
def fX3_passDay_l2 (q : Nat) (q1 : Nat) : Nat → Int32 → Mem → Option Mem
  | 0, _, _ => none
  | n + 1, x2, μ => fX3_passDay_s2 (fX3_passDay_l2 q q1 n) q q1 x2 μ
def fX3_passDay (q : Nat) (q1 : Nat) (μ : Mem) : Option Mem :=
  fX3_passDay_l2 q q1 FU 0 μ
def fX3_struckHouse (q : Nat) (x1 : Int32) (x2 : Int32) (μ : Mem) : Option Int32 :=
  (if (μ.1 q 2) ≤ 0 then some (-1) else b1 (fX3_hails q x1 x2 μ) (fun r2 => (if r2 = 0 then some (-1) else b1 (fX3_lot (μ.1 q 2) x1 ((4 * x2) + 1)) (fun r4 => some r4))))
def fX3_breakPane (q : Nat) (q1 : Nat) (x2 : Int32) (μ : Mem) : Option Mem :=
  b1 (fX7_get q1 x2 1 μ) (fun r2 => b1 (fX7_get q1 x2 0 μ) (fun r4 => (if r4 ≤ r2 then some μ else b1 (fX7_set q1 x2 1 (r2 + 1) μ) (fun μ6 => some μ6))))
def fX3_hailOn (q : Nat) (q1 : Nat) (μ : Mem) : Option Mem :=
  b1 (fX3_struckHouse q (μ.1 q 6) (μ.1 q1 1) μ) (fun r2 => (if r2 = (-1) then some μ else b1 (fX3_breakPane q q1 r2 μ) (fun μ4 => some μ4)))
def fX11_days_s29 (rec : Int32 → Mem → Option (Int32 × Mem)) (x1 : Int32) (x2 : Int32) (μ : Mem) : Option (Int32 × Mem) :=
  (if x1 ≤ x2 then some (μ.1 24 1, μ) else b1 (fX3_passDay 17 24 μ) (fun μ2 => b1 (fX3_hailOn 17 24 μ2) (fun μ4 => bd (upI μ4 24 1 ((μ4.1 24 1) + 1)) (fun μ5 => rec (x2 + 1) μ5))))
def fX11_days_l29 (x1 : Int32) : Nat → Int32 → Mem → Option (Int32 × Mem)
  | 0, _, _ => none
  | n + 1, x2, μ => fX11_days_s29 (fX11_days_l29 x1 n) x1 x2 μ
def fX11_days_b27 (x1 : Int32) (μ : Mem) : Option (Int32 × Mem) :=
  fX11_days_l29 x1 FU 0 μ
def fX11_days (x1 : Int32) (μ : Mem) : Option (Int32 × Mem) :=
  (if x1 < 0 then some ((-1), μ) else (if x1 ≤ 60 then (if x1 ≤ 0 then fX11_days_b27 x1 μ else b1 (fX0_push 24 μ) (fun μ8 => fX11_days_b27 x1 μ8)) else some ((-1), μ)))
def fX11_distanceToJoined_s7 (rec : Int32 → Int32 → Option Int32) (x1 : Int32) (x2 : Int32) (x3 : Int32) (x4 : Int32) (μ : Mem) : Option Int32 :=
  (if (μ.1 17 2) ≤ x4 then some x3 else (if ((x2 >>> (x4 &&& 31)) &&& 1) = 1 then b1 (fX3_distance 17 x1 x4 μ) (fun r2 => bd (jmin x3 r2) (fun y3 => rec y3 (x4 + 1))) else rec x3 (x4 + 1)))
def fX11_distanceToJoined_l7 (x1 : Int32) (x2 : Int32) (μ : Mem) : Nat → Int32 → Int32 → Option Int32
  | 0, _, _ => none
  | n + 1, x3, x4 => fX11_distanceToJoined_s7 (fX11_distanceToJoined_l7 x1 x2 μ n) x1 x2 x3 x4 μ
def fX11_distanceToJoined (x1 : Int32) (x2 : Int32) (μ : Mem) : Option Int32 :=
  fX11_distanceToJoined_l7 x1 x2 μ FU 1000000 0
def fX11_door_b9 (x1 : Int32) (k0 : Int32) (μ : Mem) : Option (Int32 × Mem) :=
  b1 (fX11_isHouse x1 μ) (fun r2 => (if r2 = 0 then some (0, μ) else b1 (fX7_get 24 x1 4 μ) (fun r4 => (if r4 = k0 then some (0, μ) else b1 (fX0_push 24 μ) (fun μ6 => b1 (fX7_set 24 x1 4 k0 μ6) (fun μ8 => some (1, μ8)))))))
def fX11_door (x1 : Int32) (x2 : Int32) (μ : Mem) : Option (Int32 × Mem) :=
  (if x2 = 0 then fX11_door_b9 x1 0 μ else fX11_door_b9 x1 1 μ)
def fX11_draughty_s20 (rec : Int32 → Int32 → Int32 → Mem → Option (Int32 × Mem)) (x1 : Int32) (x2 : Int32) (x3 : Int32) (x4 : Int32) (μ : Mem) : Option (Int32 × Mem) :=
  (if (μ.1 17 2) ≤ x4 then (if x1 = 0 then some (x2, μ) else some (x3, μ)) else b2 (fX3_cools 17 24 x4 μ) (fun r3 μ2 => b1 (fX3_timesCooled 17 24 x4 μ2) (fun r5 => bd (r3 * r5) (fun y6 => (if y6 ≤ x3 then rec x2 x3 (x4 + 1) μ2 else rec x4 y6 (x4 + 1) μ2)))))
def fX11_draughty_l20 (x1 : Int32) : Nat → Int32 → Int32 → Int32 → Mem → Option (Int32 × Mem)
  | 0, _, _, _, _ => none
  | n + 1, x2, x3, x4, μ => fX11_draughty_s20 (fX11_draughty_l20 x1 n) x1 x2 x3 x4 μ
def fX11_draughty_b11 (x1 : Int32) (μ : Mem) : Option (Int32 × Mem) :=
  fX11_draughty_l20 x1 FU (-2) (-2) 0 μ
def fX11_draughty (x1 : Int32) (μ : Mem) : Option (Int32 × Mem) :=
  (if x1 = 0 then fX11_draughty_b11 x1 μ else (if x1 = 1 then fX11_draughty_b11 x1 μ else some ((-1), μ)))
def fX11_enough_s4 (rec : Int32 → Int32 → Mem → Option (Int32 × Mem)) (x1 : Int32) (x2 : Int32) (μ : Mem) : Option (Int32 × Mem) :=
  (if (μ.1 17 2) ≤ x2 then some (x1, μ) else b2 (fX11_coalsNeeded 24 x2 μ) (fun r3 μ2 => (if r3 = (-1) then some ((-2), μ2) else bd (x1 + r3) (fun y4 => rec y4 (x2 + 1) μ2))))
def fX11_enough_l4 : Nat → Int32 → Int32 → Mem → Option (Int32 × Mem)
  | 0, _, _, _ => none
  | n + 1, x1, x2, μ => fX11_enough_s4 (fX11_enough_l4 n) x1 x2 μ
def fX11_enough (μ : Mem) : Option (Int32 × Mem) :=
  fX11_enough_l4 FU 0 0 μ
def fX11_far (x1 : Int32) (x2 : Int32) (μ : Mem) : Option Int32 :=
  b1 (fX11_isHouse x1 μ) (fun r2 => (if r2 = 0 then some (-1) else b1 (fX11_isHouse x2 μ) (fun r4 => (if r4 = 0 then some (-1) else b1 (fX3_distance 17 x1 x2 μ) (fun r6 => some r6)))))
def fX11_putWord_s3 (rec : Int32 → Mem → Option Mem) (x1 : Int32) (x2 : Int32) (μ : Mem) : Option Mem :=
  (if x2 < 0 then some μ else (if 2000 ≤ (μ.1 1 15) then some μ else gd (ix (μ.1 1 15) 2000) (bd (upI μ 2 ((μ.1 1 15).toNatClampNeg) (((ushr x1 x2).toInt8.toInt32).toInt8.toInt32)) (fun μ2 => bd (upI μ2 1 15 ((μ2.1 1 15) + 1)) (fun μ4 => rec (x2 + (-8)) μ4)))))
def fX11_putWord_l3 (x1 : Int32) : Nat → Int32 → Mem → Option Mem
  | 0, _, _ => none
  | n + 1, x2, μ => fX11_putWord_s3 (fX11_putWord_l3 x1 n) x1 x2 μ
def fX11_putWord (x1 : Int32) (μ : Mem) : Option Mem :=
  fX11_putWord_l3 x1 FU 24 μ
def fX11_feed (x1 : Int32) (x2 : Int32) (x3 : Int32) (x4 : Int32) (x5 : Int32) (μ : Mem) : Option (Int32 × Mem) :=
  (if ((μ.1 1 15) + 20) ≤ 2000 then b1 (fX11_putWord x1 μ) (fun μ2 => b1 (fX11_putWord x2 μ2) (fun μ4 => b1 (fX11_putWord x3 μ4) (fun μ6 => b1 (fX11_putWord x4 μ6) (fun μ8 => b1 (fX11_putWord x5 μ8) (fun μ10 => some (μ10.1 1 15, μ10)))))) else some ((-1), μ))
def fX11_lossWith (x1 : Int32) (x2 : Int32) (μ : Mem) : Option (Int32 × Mem) :=
  b1 (fX7_copyFrom 26 24 μ) (fun μ2 => b1 (fX3_burnIn 17 26 x1 x2 μ2) (fun μ4 => b2 (fX3_fades 17 26 x1 μ4) (fun r7 μ6 => some (r7, μ6))))
def fX11_savedByOne (x1 : Int32) (μ : Mem) : Option (Int32 × Mem) :=
  b2 (fX3_fades 17 24 x1 μ) (fun r3 μ2 => b2 (fX11_lossWith x1 1 μ2) (fun r6 μ5 => some (r3 - r6, μ5)))
def fX11_first_s9 (rec : Int32 → Int32 → Int32 → Mem → Option (Int32 × Mem)) (x1 : Int32) (x2 : Int32) (x3 : Int32) (μ : Mem) : Option (Int32 × Mem) :=
  (if (μ.1 17 2) ≤ x3 then some (x1, μ) else b2 (fX11_savedByOne x3 μ) (fun r3 μ2 => (if r3 ≤ x2 then rec x1 x2 (x3 + 1) μ2 else rec x3 r3 (x3 + 1) μ2)))
def fX11_first_l9 : Nat → Int32 → Int32 → Int32 → Mem → Option (Int32 × Mem)
  | 0, _, _, _, _ => none
  | n + 1, x1, x2, x3, μ => fX11_first_s9 (fX11_first_l9 n) x1 x2 x3 μ
def fX11_first (μ : Mem) : Option (Int32 × Mem) :=
  fX11_first_l9 FU (-2) (-100000) 0 μ
def fX11_forget (μ : Mem) : Option (Int32 × Mem) :=
  bd (μ.1 186 3) (fun y1 => bd (upI μ 186 3 0) (fun μ3 => some (y1, μ3)))
def fX11_gone (x1 : Int32) (μ : Mem) : Option (Int32 × Mem) :=
  b1 (fX11_isHouse x1 μ) (fun r2 => (if r2 = 0 then some ((-1), μ) else b2 (fX11_daysTillNothing x1 3 μ) (fun r5 μ4 => some (r5, μ4))))
def fX11_hold (x1 : Int32) (μ : Mem) : Option (Int32 × Mem) :=
  b2 (fX0_keep x1 24 μ) (fun r3 μ2 => some (r3 &&& 1, μ2))
def fX3_mends (q : Nat) (q1 : Nat) (x2 : Int32) (μ : Mem) : Option (Int32 × Mem) :=
  b2 (fX1_valueOf (q + 2) 3 q1 x2 μ) (fun r3 μ2 => some (jmax 0 (jmin 99 r3), μ2))
def fX11_house (x1 : Int32) (x2 : Int32) (μ : Mem) : Option (Int32 × Mem) :=
  b1 (fX11_isHouse x1 μ) (fun r2 => (if r2 = 0 then some ((-1), μ) else (if x2 < 0 then some ((-1), μ) else (if x2 ≤ 12 then (if 7 ≤ x2 then (if x2 = 7 then b2 (fX3_cools 17 24 x1 μ) (fun r5 μ4 => some (r5, μ4)) else if x2 = 8 then b2 (fX3_warms 17 24 x1 μ) (fun r9 μ8 => some (r9, μ8)) else if x2 = 9 then b2 (fX3_fades 17 24 x1 μ) (fun r13 μ12 => some (r13, μ12)) else if x2 = 10 then b2 (fX3_mends 17 24 x1 μ) (fun r17 μ16 => some (r17, μ16)) else if x2 = 11 then b1 (fX3_xOf 17 x1 μ) (fun r20 => some (r20, μ)) else b1 (fX3_yOf 17 x1 μ) (fun r23 => some (r23, μ))) else b1 (fX7_get 24 x1 x2 μ) (fun r25 => some (r25, μ))) else some ((-1), μ)))))
def fX6_fewestBest_s5 (rec : Int32 → Int32 → Option Int32) (q : Nat) (hn : Nat) (x1 : Int32) (x2 : Int32) (x3 : Int32) (x4 : Int32) (μ : Mem) : Option Int32 :=
  (if x2 < x4 then some x3 else gd (ix x1 6) (gd (ix x4 hn) (gd (ix (x1 + 1) 7) (gd (ix (x2 - x4) hn) (bd ((μ.1 (q + 3 + 1 + x1.toNatClampNeg) x4.toNatClampNeg) + (μ.1 (q + 10 + 1 + ((x1 + 1).toNatClampNeg)) ((x2 - x4).toNatClampNeg))) (fun y5 => gd (ix x1 6) (gd (ix x3 hn) (gd (ix (x1 + 1) 7) (gd (ix (x2 - x3) hn) ((if ((μ.1 (q + 3 + 1 + x1.toNatClampNeg) x3.toNatClampNeg) + (μ.1 (q + 10 + 1 + ((x1 + 1).toNatClampNeg)) ((x2 - x3).toNatClampNeg))) ≤ y5 then rec x3 (x4 + 1) else rec x4 (x4 + 1))))))))))))
def fX6_fewestBest_l5 (q : Nat) (hn : Nat) (x1 : Int32) (x2 : Int32) (μ : Mem) : Nat → Int32 → Int32 → Option Int32
  | 0, _, _ => none
  | n + 1, x3, x4 => fX6_fewestBest_s5 (fX6_fewestBest_l5 q hn x1 x2 μ n) q hn x1 x2 x3 x4 μ
def fX6_fewestBest (q : Nat) (hn : Nat) (x1 : Int32) (x2 : Int32) (μ : Mem) : Option Int32 :=
  fX6_fewestBest_l5 q hn x1 x2 μ FU 0 1
def fX6_shareOut_s11 (rec : Int32 → Int32 → Mem → Option Mem) (q : Nat) (hn : Nat) (x2 : Int32) (x3 : Int32) (μ : Mem) : Option Mem :=
  (if (μ.1 q 5) ≤ x3 then some μ else b1 (fX6_fewestBest q hn x3 x2 μ) (fun r4 => gd (ix x3 6) (bd (upI μ (q + 18) x3.toNatClampNeg r4) (fun μ6 => gd (ix x3 6) (bd (x2 - (μ6.1 (q + 18) x3.toNatClampNeg)) (fun y9 => rec y9 (x3 + 1) μ6))))))
def fX6_shareOut_l11 (q : Nat) (hn : Nat) : Nat → Int32 → Int32 → Mem → Option Mem
  | 0, _, _, _ => none
  | n + 1, x2, x3, μ => fX6_shareOut_s11 (fX6_shareOut_l11 q hn n) q hn x2 x3 μ
def fX6_shareOut (q : Nat) (hn : Nat) (x1 : Int32) (μ : Mem) : Option Mem :=
  bd (jmin x1 (μ.1 q 0)) (fun y1 => fX6_shareOut_l11 q hn FU y1 0 μ)
def fX6_burnGiven_s8 (rec : Int32 → Mem → Option Mem) (K : Mem → Option Mem) (q : Nat) (hn : Nat) (q1 : Nat) (q2 : Nat) (q3 : Nat) (x4 : Int32) (μ : Mem) : Option Mem :=
  (if (μ.1 q 5) ≤ x4 then K μ else gd (ix x4 6) (b1 (fX3_burnIn q1 q3 x4 (μ.1 (q + 18) x4.toNatClampNeg) μ) (fun μ5 => rec (x4 + 1) μ5)))
def fX6_burnGiven_l8 (K : Mem → Option Mem) (q : Nat) (hn : Nat) (q1 : Nat) (q2 : Nat) (q3 : Nat) : Nat → Int32 → Mem → Option Mem
  | 0, _, _ => none
  | n + 1, x4, μ => fX6_burnGiven_s8 (fX6_burnGiven_l8 K q hn q1 q2 q3 n) K q hn q1 q2 q3 x4 μ
def fX6_burnGiven (q : Nat) (hn : Nat) (q1 : Nat) (q2 : Nat) (q3 : Nat) (μ : Mem) : Option Mem :=
  b1 (fX7_copyFrom q3 q2 μ) (fun μ2 => fX6_burnGiven_l8 (fun μ6 => b1 (fX3_passDay q1 q3 μ6) (fun μ8 => bd (upI μ8 q3 1 ((μ8.1 q3 1) + 1)) (fun μ9 => some μ9))) q hn q1 q2 q3 FU 0 μ2)
def fX6_weigh_b64 (rec : Int32 → Mem → Option Mem) (K : Mem → Option Mem) (q : Nat) (hn : Nat) (q1 : Nat) (q2 : Nat) (x4 : Int32) (x5 : Int32) (x6 : Int32) (μ : Mem) : Option Mem :=
  gd (ix x5 6) (b2 (fX3_fades q1 (q + 1) x5 μ) (fun r10 μ9 => gd (ix x6 hn) (bd (upI μ9 (q + 3 + 1 + x5.toNatClampNeg) x6.toNatClampNeg r10) (fun μ12 => rec (x6 + 1) μ12))))
def fX6_weigh_s41 (rec : Int32 → Mem → Option Mem) (K : Mem → Option Mem) (q : Nat) (hn : Nat) (q1 : Nat) (q2 : Nat) (x4 : Int32) (x5 : Int32) (x6 : Int32) (μ : Mem) : Option Mem :=
  (if x4 < x6 then K μ else (if x6 ≤ 0 then fX6_weigh_b64 rec K q hn q1 q2 x4 x5 x6 μ else b1 (fX3_burnIn q1 (q + 1) x5 1 μ) (fun μ15 => fX6_weigh_b64 rec K q hn q1 q2 x4 x5 x6 μ15)))
def fX6_weigh_l41 (K : Mem → Option Mem) (q : Nat) (hn : Nat) (q1 : Nat) (q2 : Nat) (x4 : Int32) (x5 : Int32) : Nat → Int32 → Mem → Option Mem
  | 0, _, _ => none
  | n + 1, x6, μ => fX6_weigh_s41 (fX6_weigh_l41 K q hn q1 q2 x4 x5 n) K q hn q1 q2 x4 x5 x6 μ
def fX6_weigh_s29 (rec : Int32 → Mem → Option Mem) (K : Mem → Option Mem) (q : Nat) (hn : Nat) (q1 : Nat) (q2 : Nat) (x4 : Int32) (x5 : Int32) (μ : Mem) : Option Mem :=
  (if (μ.1 q 5) ≤ x5 then K μ else fX6_weigh_l41 (fun μ16 => rec (x5 + 1) μ16) q hn q1 q2 x4 x5 FU 0 μ)
def fX6_weigh_l29 (K : Mem → Option Mem) (q : Nat) (hn : Nat) (q1 : Nat) (q2 : Nat) (x4 : Int32) : Nat → Int32 → Mem → Option Mem
  | 0, _, _ => none
  | n + 1, x5, μ => fX6_weigh_s29 (fX6_weigh_l29 K q hn q1 q2 x4 n) K q hn q1 q2 x4 x5 μ
def fX6_weigh_s99 (rec : Int32 → Mem → Option Mem) (K : Mem → Option Mem) (q : Nat) (hn : Nat) (q1 : Nat) (q2 : Nat) (x4 : Int32) (x5 : Int32) (μ : Mem) : Option Mem :=
  (if x4 < x5 then K μ else gd (ix (μ.1 q 5) 7) (gd (ix x5 hn) (bd (upI μ (q + 10 + 1 + ((μ.1 q 5).toNatClampNeg)) x5.toNatClampNeg 0) (fun μ20 => rec (x5 + 1) μ20))))
def fX6_weigh_l99 (K : Mem → Option Mem) (q : Nat) (hn : Nat) (q1 : Nat) (q2 : Nat) (x4 : Int32) : Nat → Int32 → Mem → Option Mem
  | 0, _, _ => none
  | n + 1, x5, μ => fX6_weigh_s99 (fX6_weigh_l99 K q hn q1 q2 x4 n) K q hn q1 q2 x4 x5 μ
def fX6_weigh_s141 (rec : Int32 → Mem → Option Mem) (K : Mem → Option Mem) (q : Nat) (hn : Nat) (q1 : Nat) (q2 : Nat) (x4 : Int32) (x5 : Int32) (x6 : Int32) (μ : Mem) : Option Mem :=
  (if x4 < x6 then K μ else b1 (fX6_fewestBest q hn x5 x6 μ) (fun r26 => gd (ix x5 7) (gd (ix x5 6) (gd (ix r26 hn) (gd (ix (x5 + 1) 7) (gd (ix (x6 - r26) hn) (gd (ix x6 hn) (bd (upI μ (q + 10 + 1 + x5.toNatClampNeg) x6.toNatClampNeg ((μ.1 (q + 3 + 1 + x5.toNatClampNeg) r26.toNatClampNeg) + (μ.1 (q + 10 + 1 + ((x5 + 1).toNatClampNeg)) ((x6 - r26).toNatClampNeg)))) (fun μ33 => rec (x6 + 1) μ33)))))))))
def fX6_weigh_l141 (K : Mem → Option Mem) (q : Nat) (hn : Nat) (q1 : Nat) (q2 : Nat) (x4 : Int32) (x5 : Int32) : Nat → Int32 → Mem → Option Mem
  | 0, _, _ => none
  | n + 1, x6, μ => fX6_weigh_s141 (fX6_weigh_l141 K q hn q1 q2 x4 x5 n) K q hn q1 q2 x4 x5 x6 μ
def fX6_weigh_s133 (rec : Int32 → Mem → Option Mem) (q : Nat) (hn : Nat) (q1 : Nat) (q2 : Nat) (x4 : Int32) (x5 : Int32) (μ : Mem) : Option Mem :=
  (if x5 < 0 then some μ else fX6_weigh_l141 (fun μ35 => rec (x5 + (-1)) μ35) q hn q1 q2 x4 x5 FU 0 μ)
def fX6_weigh_l133 (q : Nat) (hn : Nat) (q1 : Nat) (q2 : Nat) (x4 : Int32) : Nat → Int32 → Mem → Option Mem
  | 0, _, _ => none
  | n + 1, x5, μ => fX6_weigh_s133 (fX6_weigh_l133 q hn q1 q2 x4 n) q hn q1 q2 x4 x5 μ
def fX6_weigh (q : Nat) (hn : Nat) (q1 : Nat) (q2 : Nat) (x3 : Int32) (μ : Mem) : Option Mem :=
  bd (jmin x3 (μ.1 q 0)) (fun y1 => bd (upI μ q 5 (μ.1 q1 2)) (fun μ3 => b1 (fX7_copyFrom (q + 1) q2 μ3) (fun μ6 => fX6_weigh_l29 (fun μ17 => fX6_weigh_l99 (fun μ22 => bd ((μ22.1 q 5) - 1) (fun y23 => fX6_weigh_l133 q hn q1 q2 y1 FU y23 μ22)) q hn q1 q2 y1 FU 0 μ17) q hn q1 q2 y1 FU 0 μ6)))
def fX6_leastLoss (q : Nat) (hn : Nat) (x1 : Int32) (μ : Mem) : Option Int32 :=
  (if x1 < 0 then some 0 else (if (μ.1 q 0) < x1 then some 0 else gd (ix x1 hn) (some (μ.1 (q + 10 + 1 + ((0 : Int32).toNatClampNeg)) x1.toNatClampNeg))))
def fX11_keptByPlan (x1 : Int32) (x2 : Int32) (μ : Mem) : Option (Int32 × Mem) :=
  b1 (fX6_shareOut 139 11 x1 μ) (fun μ2 => b1 (fX6_burnGiven 139 11 17 26 28 μ2) (fun μ4 => b1 (fX6_weigh 158 11 17 28 x2 μ4) (fun μ6 => b1 (fX7_sumOf 28 3 μ6) (fun r8 => b1 (fX6_leastLoss 158 11 x2 μ6) (fun r10 => some (r8 - r10, μ6))))))
def fX11_lasts_s21 (rec : Int32 → Mem → Option (Int32 × Mem)) (K : Mem → Option (Int32 × Mem)) (x1 : Int32) (x2 : Int32) (μ : Mem) : Option (Int32 × Mem) :=
  (if (μ.1 17 2) ≤ x2 then K μ else b2 (fX11_coalsNeeded 26 x2 μ) (fun r5 μ4 => bd (jmax 0 r5) (fun y6 => (if y6 ≤ (μ4.1 26 2) then b1 (fX3_burnIn 17 26 x2 y6 μ4) (fun μ9 => rec (x2 + 1) μ9) else some (x1, μ4)))))
def fX11_lasts_l21 (K : Mem → Option (Int32 × Mem)) (x1 : Int32) : Nat → Int32 → Mem → Option (Int32 × Mem)
  | 0, _, _ => none
  | n + 1, x2, μ => fX11_lasts_s21 (fX11_lasts_l21 K x1 n) K x1 x2 μ
def fX11_lasts_s13 (rec : Int32 → Mem → Option (Int32 × Mem)) (x1 : Int32) (μ : Mem) : Option (Int32 × Mem) :=
  (if 60 ≤ x1 then some (60, μ) else fX11_lasts_l21 (fun μ10 => b1 (fX3_passDay 17 26 μ10) (fun μ12 => bd (upI μ12 26 1 ((μ12.1 26 1) + 1)) (fun μ13 => rec (x1 + 1) μ13))) x1 FU 0 μ)
def fX11_lasts_l13 : Nat → Int32 → Mem → Option (Int32 × Mem)
  | 0, _, _ => none
  | n + 1, x1, μ => fX11_lasts_s13 (fX11_lasts_l13 n) x1 μ
def fX11_lasts (μ : Mem) : Option (Int32 × Mem) :=
  b1 (fX7_copyFrom 26 24 μ) (fun μ2 => fX11_lasts_l13 FU 0 μ2)
def fX9_isAtLeast (q0 : Nat) (x1 : Int32) (x2 : Int32) (x3 : Int32) (μ : Mem) : Option Int32 :=
  (if x2 < 0 then some 0 else (if 4 ≤ x2 then some 0 else gd (ix x2 4) (b1 (fX7_get q0 x1 (xMARK x2.toNatClampNeg) μ) (fun r3 => (if r3 < x3 then some 0 else some 1)))))
def fX9_fitting_s18 (rec : Int32 → Int32 → Option Int32) (K : Int32 → Option Int32) (q1 : Nat) (x3 : Int32) (x5 : Int32) (x6 : Int32) (x7 : Int32) (μ : Mem) : Option Int32 :=
  (if x3 ≤ x7 then K x6 else (if 20 ≤ x7 then K x6 else (if x6 = 0 then rec 0 (x7 + 1) else gd (ix x7 20) (gd (ix x7 20) (b1 (fX9_isAtLeast q1 x5 (μ.1 187 x7.toNatClampNeg) (μ.1 188 x7.toNatClampNeg) μ) (fun r4 => gd (ix x7 20) ((if r4 = (μ.1 189 x7.toNatClampNeg) then rec 1 (x7 + 1) else rec 0 (x7 + 1)))))))))
def fX9_fitting_l18 (K : Int32 → Option Int32) (q1 : Nat) (x3 : Int32) (x5 : Int32) (μ : Mem) : Nat → Int32 → Int32 → Option Int32
  | 0, _, _ => none
  | n + 1, x6, x7 => fX9_fitting_s18 (fX9_fitting_l18 K q1 x3 x5 μ n) K q1 x3 x5 x6 x7 μ
def fX9_fitting_b79 (rec : Int32 → Int32 → Option Int32) (q1 : Nat) (x2 : Int32) (x3 : Int32) (x4 : Int32) (x5 : Int32) (x6 : Int32) (μ : Mem) : Option Int32 :=
  (if x6 = 0 then rec x4 (x5 + 1) else bd (x4 ||| ((1 : Int32) <<< (x5 &&& 31))) (fun y7 => rec y7 (x5 + 1)))
def fX9_fitting_s6 (rec : Int32 → Int32 → Option Int32) (q1 : Nat) (x2 : Int32) (x3 : Int32) (x4 : Int32) (x5 : Int32) (μ : Mem) : Option Int32 :=
  (if x2 ≤ x5 then some x4 else fX9_fitting_l18 (fun y6 => fX9_fitting_b79 rec q1 x2 x3 x4 x5 y6 μ) q1 x3 x5 μ FU 1 0)
def fX9_fitting_l6 (q1 : Nat) (x2 : Int32) (x3 : Int32) (μ : Mem) : Nat → Int32 → Int32 → Option Int32
  | 0, _, _ => none
  | n + 1, x4, x5 => fX9_fitting_s6 (fX9_fitting_l6 q1 x2 x3 μ n) q1 x2 x3 x4 x5 μ
def fX9_fitting (q1 : Nat) (x2 : Int32) (x3 : Int32) (μ : Mem) : Option Int32 :=
  fX9_fitting_l6 q1 x2 x3 μ FU 0 0
def fX9_leftAtWorst_s6 (rec : Int32 → Int32 → Option Int32) (q0 : Nat) (x1 : Int32) (x2 : Int32) (x3 : Int32) (x4 : Int32) (x5 : Int32) (μ : Mem) : Option Int32 :=
  (if 6 ≤ x5 then b1 (fJ6_bitCount_0f7a4 x1) (fun r2 => some (jmax x4 (r2 - x4))) else (if ((x1 >>> (x5 &&& 31)) &&& 1) = 1 then b1 (fX9_isAtLeast q0 x5 x2 x3 μ) (fun r4 => (if r4 = 0 then rec x4 (x5 + 1) else rec (x4 + 1) (x5 + 1))) else rec x4 (x5 + 1)))
def fX9_leftAtWorst_l6 (q0 : Nat) (x1 : Int32) (x2 : Int32) (x3 : Int32) (μ : Mem) : Nat → Int32 → Int32 → Option Int32
  | 0, _, _ => none
  | n + 1, x4, x5 => fX9_leftAtWorst_s6 (fX9_leftAtWorst_l6 q0 x1 x2 x3 μ n) q0 x1 x2 x3 x4 x5 μ
def fX9_leftAtWorst (q0 : Nat) (x1 : Int32) (x2 : Int32) (x3 : Int32) (μ : Mem) : Option Int32 :=
  fX9_leftAtWorst_l6 q0 x1 x2 x3 μ FU 0 0
def fX9_bestMark_s10 (rec : Int32 → Int32 → Int32 → Option Int32) (q1 : Nat) (x2 : Int32) (x3 : Int32) (x4 : Int32) (x5 : Int32) (x6 : Int32) (μ : Mem) : Option Int32 :=
  (if 4 ≤ x6 then some x4 else b1 (fX9_leftAtWorst q1 x2 x6 x3 μ) (fun r2 => (if x5 ≤ r2 then rec x4 x5 (x6 + 1) else rec x6 r2 (x6 + 1))))
def fX9_bestMark_l10 (q1 : Nat) (x2 : Int32) (x3 : Int32) (μ : Mem) : Nat → Int32 → Int32 → Int32 → Option Int32
  | 0, _, _, _ => none
  | n + 1, x4, x5, x6 => fX9_bestMark_s10 (fX9_bestMark_l10 q1 x2 x3 μ n) q1 x2 x3 x4 x5 x6 μ
def fX9_bestMark (q1 : Nat) (x2 : Int32) (x3 : Int32) (μ : Mem) : Option Int32 :=
  fX9_bestMark_l10 q1 x2 x3 μ FU 0 1000000 0
def fX11_look (x1 : Int32) (x2 : Int32) (μ : Mem) : Option Int32 :=
  (if x1 < 0 then some (-1) else (if (μ.1 186 3) < x1 then some (-1) else (if x2 < 0 then some (-1) else (if x2 ≤ 999 then b1 (fX9_fitting 24 (μ.1 17 2) x1 μ) (fun r2 => (if r2 = 0 then some (-2) else b1 (fX9_bestMark 24 r2 x2 μ) (fun r4 => some r4))) else some (-1)))))
def fX11_lookAhead_b63 (rec : Int32 → Mem → Option Mem) (x1 : Int32) (x2 : Int32) (x3 : Int32) (x4 : Int32) (μ : Mem) : Option Mem :=
  bd (upI μ 26 1 ((μ.1 26 1) + 1)) (fun μ7 => rec (x4 + 1) μ7)
def fX11_lookAhead_s14 (rec : Int32 → Mem → Option Mem) (x1 : Int32) (x2 : Int32) (x3 : Int32) (x4 : Int32) (μ : Mem) : Option Mem :=
  (if x2 ≤ x4 then some μ else b1 (fX3_passHouse 17 26 x1 μ) (fun μ4 => b1 (fX3_struckHouse 17 x3 (μ4.1 26 1) μ4) (fun r6 => (if r6 = x1 then b1 (fX3_breakPane 17 26 x1 μ4) (fun μ10 => fX11_lookAhead_b63 rec x1 x2 x3 x4 μ10) else fX11_lookAhead_b63 rec x1 x2 x3 x4 μ4))))
def fX11_lookAhead_l14 (x1 : Int32) (x2 : Int32) (x3 : Int32) : Nat → Int32 → Mem → Option Mem
  | 0, _, _ => none
  | n + 1, x4, μ => fX11_lookAhead_s14 (fX11_lookAhead_l14 x1 x2 x3 n) x1 x2 x3 x4 μ
def fX11_lookAhead (x1 : Int32) (x2 : Int32) (x3 : Int32) (μ : Mem) : Option Mem :=
  b1 (fX7_copyFrom 26 24 μ) (fun μ2 => fX11_lookAhead_l14 x1 x2 x3 FU 0 μ2)
def fX11_loss (x1 : Int32) (x2 : Int32) (μ : Mem) : Option (Int32 × Mem) :=
  b1 (fX11_isHouse x1 μ) (fun r2 => (if r2 = 0 then some ((-1), μ) else (if x2 < 0 then some ((-1), μ) else (if x2 ≤ 30 then b2 (fX11_lossWith x1 x2 μ) (fun r5 μ4 => some (r5, μ4)) else some ((-1), μ)))))
def fX11_mend (x1 : Int32) (μ : Mem) : Option (Int32 × Mem) :=
  b1 (fX11_isHouse x1 μ) (fun r2 => (if r2 = 0 then some ((-1), μ) else b1 (fX7_get 24 x1 1 μ) (fun r4 => (if 1 ≤ r4 then b2 (fX3_mends 17 24 x1 μ) (fun r7 μ6 => (if r7 ≤ (μ6.1 24 2) then b1 (fX0_push 24 μ6) (fun μ9 => bd (upI μ9 24 2 ((μ9.1 24 2) - r7)) (fun μ10 => b1 (fX7_get 24 x1 1 μ10) (fun r13 => b1 (fX7_set 24 x1 1 (r13 - 1) μ10) (fun μ15 => some (r7, μ15))))) else some ((-1), μ6))) else some ((-1), μ)))))
def fX11_nearest_s20 (rec : Int32 → Int32 → Int32 → Option Int32) (x1 : Int32) (x2 : Int32) (x3 : Int32) (x4 : Int32) (μ : Mem) : Option Int32 :=
  (if (μ.1 17 2) ≤ x4 then some x2 else (if x4 = x1 then rec x2 x3 (x4 + 1) else b1 (fX3_distance 17 x1 x4 μ) (fun r4 => (if x3 ≤ r4 then rec x2 x3 (x4 + 1) else b1 (fX3_distance 17 x1 x4 μ) (fun r6 => rec x4 r6 (x4 + 1))))))
def fX11_nearest_l20 (x1 : Int32) (μ : Mem) : Nat → Int32 → Int32 → Int32 → Option Int32
  | 0, _, _, _ => none
  | n + 1, x2, x3, x4 => fX11_nearest_s20 (fX11_nearest_l20 x1 μ n) x1 x2 x3 x4 μ
def fX11_nearest (x1 : Int32) (μ : Mem) : Option Int32 :=
  b1 (fX11_isHouse x1 μ) (fun r2 => (if r2 = 0 then some (-1) else fX11_nearest_l20 x1 μ FU (-2) 1000000 0))
def fX11_nearestToJoined_s9 (rec : Int32 → Int32 → Int32 → Option Int32) (x1 : Int32) (x2 : Int32) (x3 : Int32) (x4 : Int32) (μ : Mem) : Option Int32 :=
  (if (μ.1 17 2) ≤ x4 then some x2 else b1 (fX11_distanceToJoined x4 x1 μ) (fun r2 => (if ((x1 >>> (x4 &&& 31)) &&& 1) = 0 then (if x3 ≤ r2 then rec x2 x3 (x4 + 1) else rec x4 r2 (x4 + 1)) else rec x2 x3 (x4 + 1))))
def fX11_nearestToJoined_l9 (x1 : Int32) (μ : Mem) : Nat → Int32 → Int32 → Int32 → Option Int32
  | 0, _, _, _ => none
  | n + 1, x2, x3, x4 => fX11_nearestToJoined_s9 (fX11_nearestToJoined_l9 x1 μ n) x1 x2 x3 x4 μ
def fX11_nearestToJoined (x1 : Int32) (μ : Mem) : Option Int32 :=
  fX11_nearestToJoined_l9 x1 μ FU 0 1000000 0
def fX11_next (x1 : Int32) (x2 : Int32) (μ : Mem) : Option (Int32 × Mem) :=
  b1 (fX11_isHouse x1 μ) (fun r2 => (if r2 = 0 then some ((-1), μ) else b1 (fX11_isHouse x2 μ) (fun r4 => (if r4 = 0 then some ((-1), μ) else b1 (fX10_search 17 x1 μ) (fun μ6 => gd (ix x2 6) (some (μ6.1 179 x2.toNatClampNeg, μ6)))))))
def fX7_keptApart (q : Nat) (x1 : Int32) (x2 : Int32) (μ : Mem) : Option Int32 :=
  b1 (fX7_get q x1 3 μ) (fun r2 => b1 (fX7_get q x2 3 μ) (fun r4 => some (jabs (r2 - r4))))
def fX2_mayStayAlone (x0 : Int32) (x1 : Int32) (x2 : Int32) : Option Int32 :=
  bd (((1 : Int32) <<< (x1 &&& 31)) - 1) (fun y1 => (if (x0 - x0 / 2 * 2) = 1 then (if (x2 &&& y1) = y1 then some 1 else some 0) else some 0))
def fX2_pairFrom_b11 (go : Nat → Int32 → Int32 → Int32 → Int32 → Mem → Option Mem) (q1 : Nat) (x5 : Int32) (μ : Mem) : Option Mem :=
  (if (μ.1 183 2) ≤ x5 then some μ else bd (upI μ 183 2 x5) (fun μ1 => gd (cpo 0 0 6 6 6) (bd (upA μ1 185 (va_cpy (μ1.1 184) (μ1.1 185) (0 : Int32).toNatClampNeg (0 : Int32).toNatClampNeg (6 : Int32).toNatClampNeg)) (fun μ4 => some μ4))))
def fX2_pairFrom_s71 (go : Nat → Int32 → Int32 → Int32 → Int32 → Mem → Option Mem) (rec : Int32 → Mem → Option Mem) (K : Mem → Option Mem) (q1 : Nat) (x2 : Int32) (x3 : Int32) (x4 : Int32) (x5 : Int32) (x6 : Int32) (μ : Mem) : Option Mem :=
  (if x2 ≤ x6 then K μ else (if 6 ≤ x6 then K μ else (if ((x4 >>> (x6 &&& 31)) &&& 1) = 0 then gd (ix x3 6) (bd (upI μ 184 x3.toNatClampNeg x6) (fun μ9 => gd (ix x6 6) (bd (upI μ9 184 x6.toNatClampNeg x3) (fun μ12 => bd ((x4 ||| ((1 : Int32) <<< (x3 &&& 31))) ||| ((1 : Int32) <<< (x6 &&& 31))) (fun y14 => b1 (fX7_keptApart q1 x3 x6 μ12) (fun r17 => b1 (go q1 x2 (x3 + 1) y14 (x5 + r17) μ12) (fun μ19 => rec (x6 + 1) μ19))))))) else rec (x6 + 1) μ)))
def fX2_pairFrom_l71 (go : Nat → Int32 → Int32 → Int32 → Int32 → Mem → Option Mem) (K : Mem → Option Mem) (q1 : Nat) (x2 : Int32) (x3 : Int32) (x4 : Int32) (x5 : Int32) : Nat → Int32 → Mem → Option Mem
  | 0, _, _ => none
  | n + 1, x6, μ => fX2_pairFrom_s71 go (fX2_pairFrom_l71 go K q1 x2 x3 x4 x5 n) K q1 x2 x3 x4 x5 x6 μ
def fX2_pairFrom_b150 (go : Nat → Int32 → Int32 → Int32 → Int32 → Mem → Option Mem) (q1 : Nat) (x2 : Int32) (x3 : Int32) (x4 : Int32) (x5 : Int32) (μ : Mem) : Option Mem :=
  b1 (fX2_mayStayAlone x2 x3 x4) (fun r22 => (if r22 = 0 then some μ else gd (ix x3 6) (bd (upI μ 184 x3.toNatClampNeg (-2)) (fun μ24 => b1 (go q1 x2 (x3 + 1) x4 x5 μ24) (fun μ27 => some μ27)))))
def fX2_pairFrom_b (go : Nat → Int32 → Int32 → Int32 → Int32 → Mem → Option Mem) (q1 : Nat) (x2 : Int32) (x3 : Int32) (x4 : Int32) (x5 : Int32) (μ : Mem) : Option Mem :=
  (if x2 ≤ x3 then fX2_pairFrom_b11 go q1 x5 μ else (if x3 < 6 then (if ((x4 >>> (x3 &&& 31)) &&& 1) = 1 then b1 (go q1 x2 (x3 + 1) x4 x5 μ) (fun μ29 => some μ29) else bd (x3 + 1) (fun y6 => fX2_pairFrom_l71 go (fun μ20 => fX2_pairFrom_b150 go q1 x2 x3 x4 x5 μ20) q1 x2 x3 x4 x5 FU y6 μ)) else fX2_pairFrom_b11 go q1 x5 μ))
def fX2_pairFrom : Nat → Nat → Int32 → Int32 → Int32 → Int32 → Mem → Option Mem
  | 0, _, _, _, _, _, _ => none
  | n + 1, q1, x2, x3, x4, x5, μ => fX2_pairFrom_b (fX2_pairFrom n) q1 x2 x3 x4 x5 μ
def fX2_search (q1 : Nat) (x2 : Int32) (μ : Mem) : Option Mem :=
  bd (upI μ 183 2 1000000) (fun μ1 => b1 (fX2_pairFrom 8 q1 x2 0 0 0 μ1) (fun μ4 => some μ4))
def fX11_paired_b15 (x1 : Int32) (μ : Mem) : Option (Int32 × Mem) :=
  b1 (fX2_search 24 (μ.1 17 2) μ) (fun μ2 => (if x1 = (-1) then some (μ2.1 183 2, μ2) else gd (ix x1 6) (some (μ2.1 185 x1.toNatClampNeg, μ2))))
def fX11_paired (x1 : Int32) (μ : Mem) : Option (Int32 × Mem) :=
  (if x1 = (-1) then fX11_paired_b15 x1 μ else b1 (fX11_isHouse x1 μ) (fun r5 => (if r5 = 0 then some ((-1), μ) else fX11_paired_b15 x1 μ)))
def fX11_pipes_s6 (rec : Int32 → Int32 → Int32 → Option Int32) (x1 : Int32) (x2 : Int32) (x3 : Int32) (μ : Mem) : Option Int32 :=
  (if (μ.1 17 2) ≤ x3 then some x1 else b1 (fX11_nearestToJoined x2 μ) (fun r2 => b1 (fX11_distanceToJoined r2 x2 μ) (fun r4 => bd (x1 + r4) (fun y5 => bd (x2 ||| ((1 : Int32) <<< (r2 &&& 31))) (fun y7 => rec y5 y7 (x3 + 1))))))
def fX11_pipes_l6 (μ : Mem) : Nat → Int32 → Int32 → Int32 → Option Int32
  | 0, _, _, _ => none
  | n + 1, x1, x2, x3 => fX11_pipes_s6 (fX11_pipes_l6 μ n) x1 x2 x3 μ
def fX11_pipes (μ : Mem) : Option Int32 :=
  fX11_pipes_l6 μ FU 0 1 1
def fX11_place (μ : Mem) : Option Int32 :=
  some (μ.1 1 16)
def fX11_plan_s99 (rec : Int32 → Mem → Option (Int32 × Mem)) (K : Mem → Option (Int32 × Mem)) (x1 : Int32) (x3 : Int32) (x4 : Int32) (μ : Mem) : Option (Int32 × Mem) :=
  (if (x1 - x3) < x4 then K μ else b2 (fX11_keptByPlan x4 ((x1 - x3) - x4) μ) (fun r14 μ13 => (if r14 ≤ (μ13.1 190 0) then rec (x4 + 1) μ13 else bd (upI μ13 190 0 r14) (fun μ15 => bd (upI μ15 190 1 x3) (fun μ17 => bd (upI μ17 190 2 x4) (fun μ19 => rec (x4 + 1) μ19))))))
def fX11_plan_l99 (K : Mem → Option (Int32 × Mem)) (x1 : Int32) (x3 : Int32) : Nat → Int32 → Mem → Option (Int32 × Mem)
  | 0, _, _ => none
  | n + 1, x4, μ => fX11_plan_s99 (fX11_plan_l99 K x1 x3 n) K x1 x3 x4 μ
def fX11_plan_s46 (rec : Int32 → Mem → Option (Int32 × Mem)) (x1 : Int32) (x2 : Int32) (x3 : Int32) (μ : Mem) : Option (Int32 × Mem) :=
  (if x1 < x3 then gd (ix x2 3) (some (μ.1 190 x2.toNatClampNeg, μ)) else b1 (fX6_shareOut 120 31 x3 μ) (fun μ7 => b1 (fX6_burnGiven 120 31 17 24 26 μ7) (fun μ9 => b1 (fX6_weigh 139 11 17 26 (x1 - x3) μ9) (fun μ11 => fX11_plan_l99 (fun μ21 => rec (x3 + 1) μ21) x1 x3 FU 0 μ11))))
def fX11_plan_l46 (x1 : Int32) (x2 : Int32) : Nat → Int32 → Mem → Option (Int32 × Mem)
  | 0, _, _ => none
  | n + 1, x3, μ => fX11_plan_s46 (fX11_plan_l46 x1 x2 n) x1 x2 x3 μ
def fX11_plan (x1 : Int32) (x2 : Int32) (μ : Mem) : Option (Int32 × Mem) :=
  (if x1 < 0 then some ((-1), μ) else (if 10 < x1 then some ((-1), μ) else (if x2 < 0 then some ((-1), μ) else (if x2 ≤ 2 then bd (upI μ 190 0 (-1)) (fun μ1 => b1 (fX6_weigh 120 31 17 24 x1 μ1) (fun μ4 => fX11_plan_l46 x1 x2 FU 0 μ4)) else some ((-1), μ)))))
def fX8_isBlank (x0 : Int32) : Option Int32 :=
  (if x0 = 9 then some 1 else (if x0 = 10 then some 1 else (if x0 = 13 then some 1 else (if x0 = 32 then some 1 else some 0))))
def fX8_endOfBlanks_s2 (rec : Int32 → Option Int32) (q0 : Nat) (x1 : Int32) (x3 : Int32) (μ : Mem) : Option Int32 :=
  (if x1 ≤ x3 then some x3 else gd (ix x3 2000) (b1 (fX8_isBlank (μ.1 q0 x3.toNatClampNeg)) (fun r3 => (if r3 = 0 then some x3 else rec (x3 + 1)))))
def fX8_endOfBlanks_l2 (q0 : Nat) (x1 : Int32) (μ : Mem) : Nat → Int32 → Option Int32
  | 0, _ => none
  | n + 1, x3 => fX8_endOfBlanks_s2 (fX8_endOfBlanks_l2 q0 x1 μ n) q0 x1 x3 μ
def fX8_endOfBlanks (q0 : Nat) (x1 : Int32) (x2 : Int32) (μ : Mem) : Option Int32 :=
  fX8_endOfBlanks_l2 q0 x1 μ FU x2
def fX8_isLetter (x0 : Int32) : Option Int32 :=
  (if x0 < 97 then some 0 else (if 122 < x0 then some 0 else some 1))
def fX8_isDigit (x0 : Int32) : Option Int32 :=
  (if x0 < 48 then some 0 else (if 57 < x0 then some 0 else some 1))
def fX8_endOfRun_s49 (rec : Int32 → Option Int32) (q0 : Nat) (x1 : Int32) (x3 : Int32) (μ : Mem) : Option Int32 :=
  (if x1 ≤ x3 then some x3 else gd (ix x3 2000) (b1 (fX8_isDigit (μ.1 q0 x3.toNatClampNeg)) (fun r11 => (if r11 = 0 then some x3 else rec (x3 + 1)))))
def fX8_endOfRun_l49 (q0 : Nat) (x1 : Int32) (μ : Mem) : Nat → Int32 → Option Int32
  | 0, _ => none
  | n + 1, x3 => fX8_endOfRun_s49 (fX8_endOfRun_l49 q0 x1 μ n) q0 x1 x3 μ
def fX8_endOfRun_s20 (rec : Int32 → Option Int32) (q0 : Nat) (x1 : Int32) (x3 : Int32) (μ : Mem) : Option Int32 :=
  (if x1 ≤ x3 then some x3 else gd (ix x3 2000) (b1 (fX8_isLetter (μ.1 q0 x3.toNatClampNeg)) (fun r14 => (if r14 = 0 then some x3 else rec (x3 + 1)))))
def fX8_endOfRun_l20 (q0 : Nat) (x1 : Int32) (μ : Mem) : Nat → Int32 → Option Int32
  | 0, _ => none
  | n + 1, x3 => fX8_endOfRun_s20 (fX8_endOfRun_l20 q0 x1 μ n) q0 x1 x3 μ
def fX8_endOfRun (q0 : Nat) (x1 : Int32) (x2 : Int32) (μ : Mem) : Option Int32 :=
  (if x2 < x1 then bd (x2 + 1) (fun y1 => gd (ix x2 2000) (b1 (fX8_isLetter (μ.1 q0 x2.toNatClampNeg)) (fun r5 => (if r5 = 0 then gd (ix x2 2000) (b1 (fX8_isDigit (μ.1 q0 x2.toNatClampNeg)) (fun r8 => (if r8 = 0 then some y1 else fX8_endOfRun_l49 q0 x1 μ FU y1))) else fX8_endOfRun_l20 q0 x1 μ FU y1)))) else some x2)
def fX8_nameOf_s5 (rec : Int64 → Int32 → Option Int64) (q0 : Nat) (x2 : Int32) (x3 : Int64) (x5 : Int32) (μ : Mem) : Option Int64 :=
  (if x2 ≤ x5 then some x3 else gd (ix x5 2000) (bd ((x3 * 27) + ((((μ.1 q0 x5.toNatClampNeg) - 97) + 1).toInt64)) (fun y2 => rec y2 (x5 + 1))))
def fX8_nameOf_l5 (q0 : Nat) (x2 : Int32) (μ : Mem) : Nat → Int64 → Int32 → Option Int64
  | 0, _, _ => none
  | n + 1, x3, x5 => fX8_nameOf_s5 (fX8_nameOf_l5 q0 x2 μ n) q0 x2 x3 x5 μ
def fX8_nameOf (q0 : Nat) (x1 : Int32) (x2 : Int32) (μ : Mem) : Option Int64 :=
  fX8_nameOf_l5 q0 x2 μ FU 0 x1
def fX8_kindOfName_s2 (rec : Int32 → Option Int32) (x1 : Int64) (x3 : Int32) (μ : Mem) : Option Int32 :=
  (if 21 ≤ x3 then some 21 else gd (ix x3 21) ((if (lg_cmp (μ.2 5 x3.toNatClampNeg) x1) = 0 then some x3 else rec (x3 + 1))))
def fX8_kindOfName_l2 (x1 : Int64) (μ : Mem) : Nat → Int32 → Option Int32
  | 0, _ => none
  | n + 1, x3 => fX8_kindOfName_s2 (fX8_kindOfName_l2 x1 μ n) x1 x3 μ
def fX8_kindOfName (x1 : Int64) (μ : Mem) : Option Int32 :=
  fX8_kindOfName_l2 x1 μ FU 0
def fX8_numberOf_s5 (rec : Int64 → Int32 → Option Int64) (q0 : Nat) (x2 : Int32) (x3 : Int64) (x5 : Int32) (μ : Mem) : Option Int64 :=
  (if x2 ≤ x5 then some x3 else gd (ix x5 2000) (bd ((x3 * 10) + (((μ.1 q0 x5.toNatClampNeg) - 48).toInt64)) (fun y2 => rec y2 (x5 + 1))))
def fX8_numberOf_l5 (q0 : Nat) (x2 : Int32) (μ : Mem) : Nat → Int64 → Int32 → Option Int64
  | 0, _, _ => none
  | n + 1, x3, x5 => fX8_numberOf_s5 (fX8_numberOf_l5 q0 x2 μ n) q0 x2 x3 x5 μ
def fX8_numberOf (q0 : Nat) (x1 : Int32) (x2 : Int32) (μ : Mem) : Option Int64 :=
  fX8_numberOf_l5 q0 x2 μ FU 0 x1
def fX8_putToken_b183 (q1 : Nat) (k1 : Int32) (k2 : Int32) (μ : Mem) : Option Mem :=
  gd (ix k1 401) (bd (upI μ 6 k1.toNatClampNeg k2) (fun μ17 => bd (upI μ17 4 4 ((μ17.1 4 4) + 1)) (fun μ19 => some μ19)))
def fX8_putToken_b147 (q1 : Nat) (k1 : Int32) (k2 : Int32) (μ : Mem) : Option Mem :=
  gd (ix k1 401) (bd (upI μ 6 k1.toNatClampNeg k2) (fun μ28 => bd (upI μ28 4 4 ((μ28.1 4 4) + 1)) (fun μ30 => some μ30)))
def fX8_putToken_b97 (q1 : Nat) (k1 : Int32) (k2 : Int32) (μ : Mem) : Option Mem :=
  gd (ix k1 401) (bd (upI μ 6 k1.toNatClampNeg k2) (fun μ41 => bd (upI μ41 4 4 ((μ41.1 4 4) + 1)) (fun μ43 => some μ43)))
def fX8_putToken (q1 : Nat) (x2 : Int32) (x3 : Int32) (μ : Mem) : Option Mem :=
  gd (ix (μ.1 4 4) 401) (bd (upI μ 8 ((μ.1 4 4).toNatClampNeg) x2) (fun μ2 => gd (ix (μ2.1 4 4) 401) (bd (upL μ2 7 ((μ2.1 4 4).toNatClampNeg) 0) (fun μ5 => (if x2 = x3 then gd (ix (μ5.1 4 4) 401) (bd (upI μ5 6 ((μ5.1 4 4).toNatClampNeg) 23) (fun μ46 => bd (upI μ46 4 4 ((μ46.1 4 4) + 1)) (fun μ48 => some μ48))) else gd (ix x2 2000) (b1 (fX8_isLetter (μ5.1 q1 x2.toNatClampNeg)) (fun r9 => (if r9 = 0 then gd (ix x2 2000) (b1 (fX8_isDigit (μ5.1 q1 x2.toNatClampNeg)) (fun r12 => (if r12 = 0 then gd (ix x2 2000) (b1 (fSIGNS ((((μ5.1 q1 x2.toNatClampNeg) &&& 255).toUInt32 % 65536).toInt32)) (fun r14 => (if r14 < 0 then fX8_putToken_b183 q1 (μ5.1 4 4) 24 μ5 else gd (ix x2 2000) (fX8_putToken_b183 q1 (μ5.1 4 4) (μ5.1 q1 x2.toNatClampNeg) μ5)))) else b1 (fX8_numberOf q1 x2 x3 μ5) (fun r23 => gd (ix (μ5.1 4 4) 401) (bd (upL μ5 7 ((μ5.1 4 4).toNatClampNeg) r23) (fun μ25 => (if (x3 - x2) ≤ 4 then fX8_putToken_b147 q1 (μ25.1 4 4) 22 μ25 else fX8_putToken_b147 q1 (μ25.1 4 4) 24 μ25))))))) else b1 (fX8_nameOf q1 x2 x3 μ5) (fun r33 => gd (ix (μ5.1 4 4) 401) (bd (upL μ5 7 ((μ5.1 4 4).toNatClampNeg) r33) (fun μ35 => (if (x3 - x2) ≤ 8 then gd (ix (μ35.1 4 4) 401) (b1 (fX8_kindOfName (μ35.2 7 ((μ35.1 4 4).toNatClampNeg)) μ35) (fun r39 => fX8_putToken_b97 q1 (μ35.1 4 4) r39 μ35)) else fX8_putToken_b97 q1 (μ35.1 4 4) 24 μ35))))))))))))
def fX8_split_s10 (rec : Int32 → Int32 → Mem → Option Mem) (q1 : Nat) (x2 : Int32) (x3 : Int32) (x4 : Int32) (μ : Mem) : Option Mem :=
  (if 400 < x4 then some μ else b1 (fX8_endOfBlanks q1 x2 x3 μ) (fun r4 => b1 (fX8_endOfRun q1 x2 r4 μ) (fun r6 => b1 (fX8_putToken q1 r4 r6 μ) (fun μ8 => gd (ix x4 401) ((if (μ8.1 6 x4.toNatClampNeg) = 23 then some μ8 else gd (ix x4 401) ((if (μ8.1 6 x4.toNatClampNeg) = 24 then some μ8 else rec r6 (x4 + 1) μ8))))))))
def fX8_split_l10 (q1 : Nat) (x2 : Int32) : Nat → Int32 → Int32 → Mem → Option Mem
  | 0, _, _, _ => none
  | n + 1, x3, x4, μ => fX8_split_s10 (fX8_split_l10 q1 x2 n) q1 x2 x3 x4 μ
def fX8_split (q1 : Nat) (x2 : Int32) (μ : Mem) : Option Mem :=
  bd (upI μ 4 4 0) (fun μ1 => fX8_split_l10 q1 x2 FU 0 0 μ1)
def fX1_begin (q : Nat) (x1 : Int32) (μ : Mem) : Option Mem :=
  (if x1 < 0 then some μ else (if 4 ≤ x1 then some μ else gd (ix x1 4) (bd (upI μ (q + 3) x1.toNatClampNeg (μ.1 q 4)) (fun μ2 => some μ2))))
def fX1_append (q : Nat) (x1 : Int32) (x2 : Int32) (μ : Mem) : Option Mem :=
  (if 416 ≤ (μ.1 q 4) then some μ else gd (ix (μ.1 q 4) 416) (bd (upI μ (q + 1) ((μ.1 q 4).toNatClampNeg) x1) (fun μ2 => gd (ix (μ2.1 q 4) 416) (bd (upI μ2 (q + 2) ((μ2.1 q 4).toNatClampNeg) x2) (fun μ5 => bd (upI μ5 q 4 ((μ5.1 q 4) + 1)) (fun μ7 => some μ7))))))
def fX1_setUntold (q : Nat) (μ : Mem) : Option Mem :=
  bd (upI μ q 4 0) (fun μ1 => b1 (fX1_begin q 0 μ1) (fun μ4 => b1 (fX1_append q 1 0 μ4) (fun μ6 => b1 (fX1_append q 9 1 μ6) (fun μ8 => b1 (fX1_append q 10 0 μ8) (fun μ10 => b1 (fX1_append q 15 0 μ10) (fun μ12 => b1 (fX1_begin q 1 μ12) (fun μ14 => b1 (fX1_append q 9 5 μ14) (fun μ16 => b1 (fX1_append q 15 0 μ16) (fun μ18 => b1 (fX1_begin q 2 μ18) (fun μ20 => b1 (fX1_append q 9 1 μ20) (fun μ22 => b1 (fX1_append q 15 0 μ22) (fun μ24 => b1 (fX1_begin q 3 μ24) (fun μ26 => b1 (fX1_append q 9 1 μ26) (fun μ28 => b1 (fX1_append q 15 0 μ28) (fun μ30 => some μ30)))))))))))))))
def fX3_setUntold (q : Nat) (μ : Mem) : Option Mem :=
  b1 (fX1_setUntold (q + 2) μ) (fun μ2 => bd (upI μ2 q 2 0) (fun μ3 => bd (upI μ3 q 3 20) (fun μ5 => bd (upI μ5 q 4 20) (fun μ7 => bd (upI μ7 q 5 0) (fun μ9 => bd (upI μ9 q 6 0) (fun μ11 => some μ11))))))
def fX4_refuse (x1 : Int32) (μ : Mem) : Option (Int32 × Mem) :=
  bd (upI μ 3 3 x1) (fun μ1 => gd (ix (μ1.1 3 2) 401) (bd (upI μ1 3 4 (μ1.1 8 ((μ1.1 3 2).toNatClampNeg))) (fun μ4 => some (0, μ4))))
def fX4_take_b60 (k1 : Int32) (μ : Mem) : Option (Int32 × Mem) :=
  bd (upI μ 3 3 k1) (fun μ3 => gd (ix (μ3.1 3 2) 401) (bd (upI μ3 3 4 (μ3.1 8 ((μ3.1 3 2).toNatClampNeg))) (fun μ6 => some (0, μ6))))
def fX4_take_b38 (x1 : Int32) (μ : Mem) : Option (Int32 × Mem) :=
  gd (ix (μ.1 3 2) 401) ((if (μ.1 6 ((μ.1 3 2).toNatClampNeg)) = x1 then fX4_take_b60 2 μ else fX4_take_b60 1 μ))
def fX4_take (x1 : Int32) (μ : Mem) : Option (Int32 × Mem) :=
  gd (ix (μ.1 3 2) 401) ((if (μ.1 6 ((μ.1 3 2).toNatClampNeg)) = x1 then (if 400 ≤ (μ.1 3 2) then fX4_take_b38 x1 μ else bd (upI μ 3 2 ((μ.1 3 2) + 1)) (fun μ8 => some (1, μ8))) else fX4_take_b38 x1 μ))
def fX4_unit_b (go : Int32 → Mem → Option (Int32 × Mem)) (x1 : Int32) (μ : Mem) : Option (Int32 × Mem) :=
  gd (ix (μ.1 3 2) 401) (bd (μ.1 6 ((μ.1 3 2).toNatClampNeg)) (fun y2 => (if y2 = 40 then (if x1 < 6 then b2 (fX4_take 40 μ) (fun r23 μ22 => (if r23 = 0 then some (0, μ22) else b2 (go (x1 + 1) μ22) (fun r26 μ25 => (if r26 = 0 then some (0, μ25) else b2 (fX4_take 41 μ25) (fun r29 μ28 => (if r29 = 0 then some (0, μ28) else some (1, μ28))))))) else b2 (fX4_refuse 2 μ) (fun r32 μ31 => some (r32 &&& 1, μ31))) else (if y2 = 22 then gd (ix (μ.1 3 2) 401) (b1 (fX1_append 11 9 ((μ.2 7 ((μ.1 3 2).toNatClampNeg)).toInt32) μ) (fun μ17 => b2 (fX4_take y2 μ17) (fun r20 μ19 => some (r20 &&& 1, μ19)))) else (if y2 < 12 then b2 (fX4_refuse 1 μ) (fun r6 μ5 => some (r6 &&& 1, μ5)) else (if 20 < y2 then b2 (fX4_refuse 1 μ) (fun r9 μ8 => some (r9 &&& 1, μ8)) else b1 (fX1_append 11 (y2 - 12) 0 μ) (fun μ11 => b2 (fX4_take y2 μ11) (fun r14 μ13 => some (r14 &&& 1, μ13)))))))))
def fX4_product_b46 (go : Int32 → Mem → Option (Int32 × Mem)) (rec : Int32 → Mem → Option (Int32 × Mem)) (x1 : Int32) (x2 : Int32) (x3 : Int32) (μ : Mem) : Option (Int32 × Mem) :=
  b2 (fX4_take x3 μ) (fun r9 μ8 => (if r9 = 0 then some (0, μ8) else b2 (fX4_unit_b go x1 μ8) (fun r12 μ11 => (if r12 = 0 then some (0, μ11) else (if x3 = 42 then b1 (fX1_append 11 12 0 μ11) (fun μ16 => rec (x2 + 1) μ16) else b1 (fX1_append 11 13 0 μ11) (fun μ14 => rec (x2 + 1) μ14))))))
def fX4_product_s12 (go : Int32 → Mem → Option (Int32 × Mem)) (rec : Int32 → Mem → Option (Int32 × Mem)) (x1 : Int32) (x2 : Int32) (μ : Mem) : Option (Int32 × Mem) :=
  (if 400 < x2 then some (0, μ) else gd (ix (μ.1 3 2) 401) (bd (μ.1 6 ((μ.1 3 2).toNatClampNeg)) (fun y5 => (if y5 = 42 then fX4_product_b46 go rec x1 x2 y5 μ else (if y5 = 47 then fX4_product_b46 go rec x1 x2 y5 μ else some (1, μ))))))
def fX4_product_l12 (go : Int32 → Mem → Option (Int32 × Mem)) (x1 : Int32) : Nat → Int32 → Mem → Option (Int32 × Mem)
  | 0, _, _ => none
  | n + 1, x2, μ => fX4_product_s12 go (fX4_product_l12 go x1 n) x1 x2 μ
def fX4_product_b (go : Int32 → Mem → Option (Int32 × Mem)) (x1 : Int32) (μ : Mem) : Option (Int32 × Mem) :=
  b2 (fX4_unit_b go x1 μ) (fun r3 μ2 => (if r3 = 0 then some (0, μ2) else fX4_product_l12 go x1 FU 0 μ2))
def fX4_sum_b46 (go : Int32 → Mem → Option (Int32 × Mem)) (rec : Int32 → Mem → Option (Int32 × Mem)) (x1 : Int32) (x2 : Int32) (x3 : Int32) (μ : Mem) : Option (Int32 × Mem) :=
  b2 (fX4_take x3 μ) (fun r9 μ8 => (if r9 = 0 then some (0, μ8) else b2 (fX4_product_b go x1 μ8) (fun r12 μ11 => (if r12 = 0 then some (0, μ11) else (if x3 = 43 then b1 (fX1_append 11 10 0 μ11) (fun μ16 => rec (x2 + 1) μ16) else b1 (fX1_append 11 11 0 μ11) (fun μ14 => rec (x2 + 1) μ14))))))
def fX4_sum_s12 (go : Int32 → Mem → Option (Int32 × Mem)) (rec : Int32 → Mem → Option (Int32 × Mem)) (x1 : Int32) (x2 : Int32) (μ : Mem) : Option (Int32 × Mem) :=
  (if 400 < x2 then some (0, μ) else gd (ix (μ.1 3 2) 401) (bd (μ.1 6 ((μ.1 3 2).toNatClampNeg)) (fun y5 => (if y5 = 43 then fX4_sum_b46 go rec x1 x2 y5 μ else (if y5 = 45 then fX4_sum_b46 go rec x1 x2 y5 μ else some (1, μ))))))
def fX4_sum_l12 (go : Int32 → Mem → Option (Int32 × Mem)) (x1 : Int32) : Nat → Int32 → Mem → Option (Int32 × Mem)
  | 0, _, _ => none
  | n + 1, x2, μ => fX4_sum_s12 go (fX4_sum_l12 go x1 n) x1 x2 μ
def fX4_sum_b (go : Int32 → Mem → Option (Int32 × Mem)) (x1 : Int32) (μ : Mem) : Option (Int32 × Mem) :=
  b2 (fX4_product_b go x1 μ) (fun r3 μ2 => (if r3 = 0 then some (0, μ2) else fX4_sum_l12 go x1 FU 0 μ2))
def fX4_sum : Nat → Int32 → Mem → Option (Int32 × Mem)
  | 0, _, _ => none
  | n + 1, x1, μ => fX4_sum_b (fX4_sum n) x1 μ
def fX4_isToldAlready_s2 (rec : Int32 → Option Int32) (x1 : Int64) (x3 : Int32) (μ : Mem) : Option Int32 :=
  (if (μ.1 9 2) ≤ x3 then some 0 else (if 6 ≤ x3 then some 0 else gd (ix x3 6) ((if (lg_cmp (μ.2 16 x3.toNatClampNeg) x1) = 0 then some 1 else rec (x3 + 1)))))
def fX4_isToldAlready_l2 (x1 : Int64) (μ : Mem) : Nat → Int32 → Option Int32
  | 0, _ => none
  | n + 1, x3 => fX4_isToldAlready_s2 (fX4_isToldAlready_l2 x1 μ n) x1 x3 μ
def fX4_isToldAlready (x1 : Int64) (μ : Mem) : Option Int32 :=
  fX4_isToldAlready_l2 x1 μ FU 0
def fX4_note (x1 : Int32) (μ : Mem) : Option Mem :=
  (if (μ.1 3 3) = 0 then bd (upI μ 3 3 x1) (fun μ1 => gd (ix (μ1.1 3 2) 401) (bd (upI μ1 3 4 (μ1.1 8 ((μ1.1 3 2).toNatClampNeg))) (fun μ4 => some μ4))) else some μ)
def fX4_numberHere_b49 (x2 : Int32) (k0 : Int32) (μ : Mem) : Option (Int32 × Mem) :=
  gd (ix (μ.1 3 2) 401) ((if (μ.1 6 ((μ.1 3 2).toNatClampNeg)) = 22 then (if k0 = 0 then b1 (fX4_note 5 μ) (fun μ6 => some (x2, μ6)) else some (x2, μ)) else some (x2, μ)))
def fX4_numberHere_b48 (x2 : Int32) (μ : Mem) : Option (Int32 × Mem) :=
  fX4_numberHere_b49 x2 0 μ
def fX4_numberHere (x1 : Int32) (μ : Mem) : Option (Int32 × Mem) :=
  gd (ix (μ.1 3 2) 401) (bd ((μ.2 7 ((μ.1 3 2).toNatClampNeg)).toInt32) (fun y2 => (if x1 < 0 then fX4_numberHere_b48 y2 μ else (if 9 ≤ x1 then fX4_numberHere_b48 y2 μ else gd (ix x1 9) ((if y2 < (xLEAST x1.toNatClampNeg) then fX4_numberHere_b48 y2 μ else gd (ix x1 9) ((if (xMOST x1.toNatClampNeg) < y2 then fX4_numberHere_b48 y2 μ else fX4_numberHere_b49 y2 1 μ))))))))
def fX3_setNumber (q : Nat) (x1 : Int32) (x2 : Int32) (x3 : Int32) (μ : Mem) : Option Mem :=
  bd ((x1 * 5) + x2) (fun y1 => (if y1 < 0 then some μ else (if 30 ≤ y1 then some μ else gd (ix y1 30) (bd (upI μ (q + 1) y1.toNatClampNeg x3) (fun μ4 => some μ4)))))
def fX4_tellHouse_s102 (rec : Int32 → Mem → Option (Int32 × Mem)) (K : Mem → Option (Int32 × Mem)) (x1 : Int32) (x2 : Int32) (μ : Mem) : Option (Int32 × Mem) :=
  (if 5 ≤ x2 then K μ else b2 (fX4_numberHere x2 μ) (fun r16 μ15 => b1 (fX3_setNumber 9 x1 x2 r16 μ15) (fun μ18 => b2 (fX4_take 22 μ18) (fun r21 μ20 => (if r21 = 0 then some (0, μ20) else rec (x2 + 1) μ20)))))
def fX4_tellHouse_l102 (K : Mem → Option (Int32 × Mem)) (x1 : Int32) : Nat → Int32 → Mem → Option (Int32 × Mem)
  | 0, _, _ => none
  | n + 1, x2, μ => fX4_tellHouse_s102 (fX4_tellHouse_l102 K x1 n) K x1 x2 μ
def fX4_tellHouse_b89 (x1 : Int32) (μ : Mem) : Option (Int32 × Mem) :=
  b2 (fX4_take 21 μ) (fun r13 μ12 => (if r13 = 0 then some (0, μ12) else fX4_tellHouse_l102 (fun μ22 => bd (upI μ22 9 2 ((μ22.1 9 2) + 1)) (fun μ23 => b2 (fX4_take 59 μ23) (fun r27 μ26 => some (r27 &&& 1, μ26)))) x1 FU 0 μ12))
def fX4_tellHouse (μ : Mem) : Option (Int32 × Mem) :=
  bd (μ.1 9 2) (fun y1 => (if y1 < 6 then b2 (fX4_take 0 μ) (fun r5 μ4 => (if r5 = 0 then some (0, μ4) else gd (ix (μ4.1 3 2) 401) (gd (ix y1 6) (bd (upL μ4 16 y1.toNatClampNeg (μ4.2 7 ((μ4.1 3 2).toNatClampNeg))) (fun μ8 => gd (ix (μ8.1 3 2) 401) ((if (μ8.1 6 ((μ8.1 3 2).toNatClampNeg)) = 21 then gd (ix (μ8.1 3 2) 401) (b1 (fX4_isToldAlready (μ8.2 7 ((μ8.1 3 2).toNatClampNeg)) μ8) (fun r30 => (if r30 = 0 then fX4_tellHouse_b89 y1 μ8 else b1 (fX4_note 3 μ8) (fun μ32 => fX4_tellHouse_b89 y1 μ32)))) else fX4_tellHouse_b89 y1 μ8))))))) else b2 (fX4_refuse 2 μ) (fun r35 μ34 => some (r35 &&& 1, μ34))))
def fX1_aimHere (q : Nat) (x1 : Int32) (μ : Mem) : Option Mem :=
  (if x1 < 0 then some μ else (if (μ.1 q 4) ≤ x1 then some μ else gd (ix x1 416) (bd (upI μ (q + 2) x1.toNatClampNeg (μ.1 q 4)) (fun μ2 => some μ2))))
def fX4_tellLaw_s26 (rec : Int32 → Mem → Option (Int32 × Mem)) (K : Mem → Option (Int32 × Mem)) (x3 : Int32) (μ : Mem) : Option (Int32 × Mem) :=
  (if 4 < x3 then K μ else gd (ix (μ.1 3 2) 401) ((if (μ.1 6 ((μ.1 3 2).toNatClampNeg)) = 9 then (if x3 = 4 then b2 (fX4_refuse 2 μ) (fun r38 μ37 => some (r38 &&& 1, μ37)) else b2 (fX4_take 9 μ) (fun r9 μ8 => (if r9 = 0 then some (0, μ8) else b2 (fX4_sum 8 0 μ8) (fun r12 μ11 => (if r12 = 0 then some (0, μ11) else b2 (fX4_take 60 μ11) (fun r15 μ14 => (if r15 = 0 then some (0, μ14) else b2 (fX4_sum 8 0 μ14) (fun r18 μ17 => (if r18 = 0 then some (0, μ17) else b2 (fX4_take 10 μ17) (fun r21 μ20 => (if r21 = 0 then some (0, μ20) else bd (μ20.1 11 4) (fun y22 => b1 (fX1_append 11 14 0 μ20) (fun μ25 => b2 (fX4_sum 8 0 μ25) (fun r28 μ27 => (if r28 = 0 then some (0, μ27) else b2 (fX4_take 11 μ27) (fun r31 μ30 => (if r31 = 0 then some (0, μ30) else b1 (fX1_append 11 15 0 μ30) (fun μ33 => b1 (fX1_aimHere 11 y22 μ33) (fun μ35 => rec (x3 + 1) μ35))))))))))))))))))) else K μ)))
def fX4_tellLaw_l26 (K : Mem → Option (Int32 × Mem)) : Nat → Int32 → Mem → Option (Int32 × Mem)
  | 0, _, _ => none
  | n + 1, x3, μ => fX4_tellLaw_s26 (fX4_tellLaw_l26 K n) K x3 μ
def fX4_tellLaw_b155 (μ : Mem) : Option (Int32 × Mem) :=
  b2 (fX4_sum 8 0 μ) (fun r42 μ41 => (if r42 = 0 then some (0, μ41) else b1 (fX1_append 11 15 0 μ41) (fun μ44 => b2 (fX4_take 59 μ44) (fun r47 μ46 => some (r47 &&& 1, μ46)))))
def fX4_tellLaw (x1 : Int32) (μ : Mem) : Option (Int32 × Mem) :=
  b2 (fX4_take 61 μ) (fun r3 μ2 => (if r3 = 0 then some (0, μ2) else b1 (fX1_begin 11 x1 μ2) (fun μ5 => fX4_tellLaw_l26 (fun μ39 => fX4_tellLaw_b155 μ39) FU 0 μ5)))
def fX4_tellNumber (x1 : Int32) (μ : Mem) : Option (Int32 × Mem) :=
  b2 (fX4_numberHere ((5 + x1) - 5) μ) (fun r3 μ2 => b2 (fX4_take 22 μ2) (fun r6 μ5 => (if r6 = 0 then some (0, μ5) else bd (x1 - 5) (fun y7 => (if y7 = 0 then bd (upI μ5 9 3 r3) (fun μ9 => b2 (fX4_take 59 μ9) (fun r13 μ12 => some (r13 &&& 1, μ12))) else if y7 = 1 then bd (upI μ5 9 4 r3) (fun μ15 => b2 (fX4_take 59 μ15) (fun r19 μ18 => some (r19 &&& 1, μ18))) else if y7 = 2 then bd (upI μ5 9 5 r3) (fun μ21 => b2 (fX4_take 59 μ21) (fun r25 μ24 => some (r25 &&& 1, μ24))) else bd (upI μ5 9 6 r3) (fun μ27 => b2 (fX4_take 59 μ27) (fun r31 μ30 => some (r31 &&& 1, μ30))))))))
def fX4_tellOne_b56 (x1 : Int32) (μ : Mem) : Option (Int32 × Mem) :=
  (if x1 < 5 then b2 (fX4_refuse 1 μ) (fun r6 μ5 => some (r6 &&& 1, μ5)) else (if 8 < x1 then b2 (fX4_refuse 1 μ) (fun r9 μ8 => some (r9 &&& 1, μ8)) else b2 (fX4_take x1 μ) (fun r12 μ11 => (if r12 = 0 then some (0, μ11) else b2 (fX4_tellNumber x1 μ11) (fun r15 μ14 => (if r15 = 0 then some (0, μ14) else some (1, μ14)))))))
def fX4_tellOne (μ : Mem) : Option (Int32 × Mem) :=
  gd (ix (μ.1 3 2) 401) (bd (μ.1 6 ((μ.1 3 2).toNatClampNeg)) (fun y2 => (if y2 = 0 then b2 (fX4_tellHouse μ) (fun r24 μ23 => some (r24 &&& 1, μ23)) else (if y2 < 1 then fX4_tellOne_b56 y2 μ else (if 4 < y2 then fX4_tellOne_b56 y2 μ else b2 (fX4_take y2 μ) (fun r18 μ17 => (if r18 = 0 then some (0, μ17) else b2 (fX4_tellLaw (y2 - 1) μ17) (fun r21 μ20 => (if r21 = 0 then some (0, μ20) else some (1, μ20))))))))))
def fX4_readText_s36 (rec : Int32 → Int32 → Mem → Option (Int32 × Mem)) (q1 : Nat) (x3 : Int32) (x4 : Int32) (μ : Mem) : Option (Int32 × Mem) :=
  (if 400 < x4 then some (μ.1 3 3, μ) else (if x3 = 0 then some (μ.1 3 3, μ) else gd (ix (μ.1 3 2) 401) ((if (μ.1 6 ((μ.1 3 2).toNatClampNeg)) = 23 then rec 0 (x4 + 1) μ else b2 (fX4_tellOne μ) (fun r14 μ13 => (if r14 = 0 then rec 0 (x4 + 1) μ13 else rec 1 (x4 + 1) μ13))))))
def fX4_readText_l36 (q1 : Nat) : Nat → Int32 → Int32 → Mem → Option (Int32 × Mem)
  | 0, _, _, _ => none
  | n + 1, x3, x4, μ => fX4_readText_s36 (fX4_readText_l36 q1 n) q1 x3 x4 μ
def fX4_readText (q1 : Nat) (x2 : Int32) (μ : Mem) : Option (Int32 × Mem) :=
  b1 (fX8_split q1 x2 μ) (fun μ2 => b1 (fX3_setUntold 9 μ2) (fun μ4 => bd (upI μ4 3 2 0) (fun μ5 => bd (upI μ5 3 3 0) (fun μ7 => bd (upI μ7 3 4 (-1)) (fun μ9 => fX4_readText_l36 q1 FU 1 0 μ9)))))
def fX1_copyFrom (q : Nat) (q1 : Nat) (μ : Mem) : Option Mem :=
  gd (cpo 0 0 (μ.1 q1 4) 416 416) (bd (upA μ (q + 1) (va_cpy (μ.1 (q1 + 1)) (μ.1 (q + 1)) (0 : Int32).toNatClampNeg (0 : Int32).toNatClampNeg (μ.1 q1 4).toNatClampNeg)) (fun μ2 => gd (cpo 0 0 (μ2.1 q1 4) 416 416) (bd (upA μ2 (q + 2) (va_cpy (μ2.1 (q1 + 2)) (μ2.1 (q + 2)) (0 : Int32).toNatClampNeg (0 : Int32).toNatClampNeg (μ2.1 q1 4).toNatClampNeg)) (fun μ5 => gd (cpo 0 0 4 4 4) (bd (upA μ5 (q + 3) (va_cpy (μ5.1 (q1 + 3)) (μ5.1 (q + 3)) (0 : Int32).toNatClampNeg (0 : Int32).toNatClampNeg (4 : Int32).toNatClampNeg)) (fun μ8 => bd (upI μ8 q 4 (μ8.1 q1 4)) (fun μ10 => some μ10)))))))
def fX3_copyFrom (q : Nat) (q1 : Nat) (μ : Mem) : Option Mem :=
  gd (cpo 0 0 30 30 30) (bd (upA μ (q + 1) (va_cpy (μ.1 (q1 + 1)) (μ.1 (q + 1)) (0 : Int32).toNatClampNeg (0 : Int32).toNatClampNeg (30 : Int32).toNatClampNeg)) (fun μ2 => b1 (fX1_copyFrom (q + 2) (q1 + 2) μ2) (fun μ5 => bd (upI μ5 q 2 (μ5.1 q1 2)) (fun μ6 => bd (upI μ6 q 3 (μ6.1 q1 3)) (fun μ8 => bd (upI μ8 q 4 (μ8.1 q1 4)) (fun μ10 => bd (upI μ10 q 5 (μ10.1 q1 5)) (fun μ12 => bd (upI μ12 q 6 (μ12.1 q1 6)) (fun μ14 => some μ14))))))))
def fX3_begin_s10 (rec : Int32 → Mem → Option Mem) (K : Mem → Option Mem) (q : Nat) (q1 : Nat) (x2 : Int32) (x3 : Int32) (μ : Mem) : Option Mem :=
  (if 7 ≤ x3 then K μ else b1 (fX7_set q1 x2 x3 0 μ) (fun μ2 => rec (x3 + 1) μ2))
def fX3_begin_l10 (K : Mem → Option Mem) (q : Nat) (q1 : Nat) (x2 : Int32) : Nat → Int32 → Mem → Option Mem
  | 0, _, _ => none
  | n + 1, x3, μ => fX3_begin_s10 (fX3_begin_l10 K q q1 x2 n) K q q1 x2 x3 μ
def fX3_begin_s2 (rec : Int32 → Mem → Option Mem) (K : Mem → Option Mem) (q : Nat) (q1 : Nat) (x2 : Int32) (μ : Mem) : Option Mem :=
  (if 6 ≤ x2 then K μ else fX3_begin_l10 (fun μ3 => rec (x2 + 1) μ3) q q1 x2 FU 0 μ)
def fX3_begin_l2 (K : Mem → Option Mem) (q : Nat) (q1 : Nat) : Nat → Int32 → Mem → Option Mem
  | 0, _, _ => none
  | n + 1, x2, μ => fX3_begin_s2 (fX3_begin_l2 K q q1 n) K q q1 x2 μ
def fX3_begin_s37 (rec : Int32 → Mem → Option Mem) (K : Mem → Option Mem) (q : Nat) (q1 : Nat) (x2 : Int32) (μ : Mem) : Option Mem :=
  (if (μ.1 q 2) ≤ x2 then K μ else b1 (fX3_number q x2 0 μ) (fun r6 => b1 (fX7_set q1 x2 0 r6 μ) (fun μ8 => b1 (fX3_number q x2 1 μ8) (fun r10 => b1 (fX7_set q1 x2 2 r10 μ8) (fun μ12 => b1 (fX3_number q x2 2 μ12) (fun r14 => b1 (fX7_set q1 x2 3 r14 μ12) (fun μ16 => rec (x2 + 1) μ16)))))))
def fX3_begin_l37 (K : Mem → Option Mem) (q : Nat) (q1 : Nat) : Nat → Int32 → Mem → Option Mem
  | 0, _, _ => none
  | n + 1, x2, μ => fX3_begin_s37 (fX3_begin_l37 K q q1 n) K q q1 x2 μ
def fX3_begin (q : Nat) (q1 : Nat) (μ : Mem) : Option Mem :=
  fX3_begin_l2 (fun μ4 => fX3_begin_l37 (fun μ17 => bd (upI μ17 q1 1 0) (fun μ18 => bd (upI μ18 q1 2 (μ18.1 q 3)) (fun μ20 => bd (upI μ20 q1 3 0) (fun μ22 => bd (upI μ22 q1 4 0) (fun μ24 => some μ24))))) q q1 FU 0 μ4) q q1 FU 0 μ
def fX11_read_b37 (x1 : Int32) (k1 : Int32) (μ : Mem) : Option (Int32 × Mem) :=
  bd (upI μ 1 16 k1) (fun μ6 => (if x1 = 0 then b1 (fX3_copyFrom 17 9 μ6) (fun μ9 => b1 (fX3_begin 17 24 μ9) (fun μ11 => b1 (fX0_clearAll μ11) (fun μ13 => bd (upI μ13 186 3 0) (fun μ14 => some (x1, μ14))))) else some (x1, μ6)))
def fX11_read (μ : Mem) : Option (Int32 × Mem) :=
  b2 (fX4_readText 2 (μ.1 1 15) μ) (fun r3 μ2 => bd (upI μ2 1 15 0) (fun μ4 => (if r3 = 0 then fX11_read_b37 r3 (-1) μ4 else fX11_read_b37 r3 (μ4.1 3 4) μ4)))
def fX11_restore (x1 : Int32) (μ : Mem) : Option (Int32 × Mem) :=
  b2 (fX0_fetch x1 24 μ) (fun r3 μ2 => some (r3 &&& 1, μ2))
def fX5_coverFrom_s27 (go : Nat → Nat → Int32 → Int32 → Int32 → Mem → Option (Int32 × Mem)) (rec : Int32 → Mem → Option (Int32 × Mem)) (q1 : Nat) (q2 : Nat) (x3 : Int32) (x4 : Int32) (x5 : Int32) (x6 : Int32) (x7 : Int32) (μ : Mem) : Option (Int32 × Mem) :=
  (if x4 < x7 then some (0, μ) else (if x5 ≤ x7 then some (0, μ) else (if 6 ≤ x7 then some (0, μ) else gd (ix x7 6) ((if (μ.1 q2 4) < ((μ.1 182 x7.toNatClampNeg) + x6) then rec (x7 + 1) μ else gd (ix x3 6) (bd (upI μ 181 x3.toNatClampNeg x7) (fun μ5 => gd (ix x7 6) (gd (ix x7 6) (bd (upI μ5 182 x7.toNatClampNeg ((μ5.1 182 x7.toNatClampNeg) + x6)) (fun μ9 => b2 (go q1 q2 (x3 + 1) (jmax x4 (x7 + 1)) x5 μ9) (fun r13 μ12 => (if r13 = 0 then gd (ix x7 6) (gd (ix x7 6) (bd (upI μ12 182 x7.toNatClampNeg ((μ12.1 182 x7.toNatClampNeg) - x6)) (fun μ16 => rec (x7 + 1) μ16))) else some (1, μ12)))))))))))))
def fX5_coverFrom_l27 (go : Nat → Nat → Int32 → Int32 → Int32 → Mem → Option (Int32 × Mem)) (q1 : Nat) (q2 : Nat) (x3 : Int32) (x4 : Int32) (x5 : Int32) (x6 : Int32) : Nat → Int32 → Mem → Option (Int32 × Mem)
  | 0, _, _ => none
  | n + 1, x7, μ => fX5_coverFrom_s27 go (fX5_coverFrom_l27 go q1 q2 x3 x4 x5 x6 n) q1 q2 x3 x4 x5 x6 x7 μ
def fX5_coverFrom_b (go : Nat → Nat → Int32 → Int32 → Int32 → Mem → Option (Int32 × Mem)) (q1 : Nat) (q2 : Nat) (x3 : Int32) (x4 : Int32) (x5 : Int32) (μ : Mem) : Option (Int32 × Mem) :=
  (if (μ.1 q2 2) ≤ x3 then some (1, μ) else (if x3 < 6 then b1 (fX7_get q1 x3 0 μ) (fun r2 => fX5_coverFrom_l27 go q1 q2 x3 x4 x5 r2 FU 0 μ) else some (1, μ)))
def fX5_coverFrom : Nat → Nat → Nat → Int32 → Int32 → Int32 → Mem → Option (Int32 × Mem)
  | 0, _, _, _, _, _, _ => none
  | n + 1, q1, q2, x3, x4, x5, μ => fX5_coverFrom_b (fX5_coverFrom n) q1 q2 x3 x4 x5 μ
def fX5_search_s2 (rec : Int32 → Option (Int32 × Mem)) (K : Option (Int32 × Mem)) (q1 : Nat) (q2 : Nat) (x3 : Int32) (μ : Mem) : Option (Int32 × Mem) :=
  (if (μ.1 q2 2) ≤ x3 then K else b1 (fX7_get q1 x3 0 μ) (fun r2 => (if r2 ≤ (μ.1 q2 4) then rec (x3 + 1) else some ((-2), μ))))
def fX5_search_l2 (K : Option (Int32 × Mem)) (q1 : Nat) (q2 : Nat) (μ : Mem) : Nat → Int32 → Option (Int32 × Mem)
  | 0, _ => none
  | n + 1, x3 => fX5_search_s2 (fX5_search_l2 K q1 q2 μ n) K q1 q2 x3 μ
def fX5_search_s45 (rec : Int32 → Mem → Option (Int32 × Mem)) (K : Mem → Option (Int32 × Mem)) (q1 : Nat) (q2 : Nat) (x4 : Int32) (μ : Mem) : Option (Int32 × Mem) :=
  (if 6 ≤ x4 then K μ else gd (ix x4 6) (bd (upI μ 182 x4.toNatClampNeg 0) (fun μ4 => rec (x4 + 1) μ4)))
def fX5_search_l45 (K : Mem → Option (Int32 × Mem)) (q1 : Nat) (q2 : Nat) : Nat → Int32 → Mem → Option (Int32 × Mem)
  | 0, _, _ => none
  | n + 1, x4, μ => fX5_search_s45 (fX5_search_l45 K q1 q2 n) K q1 q2 x4 μ
def fX5_search_s34 (rec : Int32 → Mem → Option (Int32 × Mem)) (q1 : Nat) (q2 : Nat) (x3 : Int32) (μ : Mem) : Option (Int32 × Mem) :=
  (if (μ.1 q2 2) < x3 then some ((-2), μ) else fX5_search_l45 (fun μ6 => b2 (fX5_coverFrom 8 q1 q2 0 0 x3 μ6) (fun r9 μ8 => (if r9 = 0 then rec (x3 + 1) μ8 else some (x3, μ8)))) q1 q2 FU 0 μ)
def fX5_search_l34 (q1 : Nat) (q2 : Nat) : Nat → Int32 → Mem → Option (Int32 × Mem)
  | 0, _, _ => none
  | n + 1, x3, μ => fX5_search_s34 (fX5_search_l34 q1 q2 n) q1 q2 x3 μ
def fX5_search (q1 : Nat) (q2 : Nat) (μ : Mem) : Option (Int32 × Mem) :=
  fX5_search_l2 (fX5_search_l34 q1 q2 FU 0 μ) q1 q2 μ FU 0
def fX11_roofs_b15 (x1 : Int32) (μ : Mem) : Option (Int32 × Mem) :=
  b2 (fX5_search 24 17 μ) (fun r3 μ2 => (if r3 = (-2) then some (r3, μ2) else (if x1 = (-1) then some (r3, μ2) else gd (ix x1 6) (some (μ2.1 181 x1.toNatClampNeg, μ2)))))
def fX11_roofs (x1 : Int32) (μ : Mem) : Option (Int32 × Mem) :=
  (if x1 = (-1) then fX11_roofs_b15 x1 μ else b1 (fX11_isHouse x1 μ) (fun r6 => (if r6 = 0 then some ((-1), μ) else fX11_roofs_b15 x1 μ)))
def fX11_round (x1 : Int32) (μ : Mem) : Option (Int32 × Mem) :=
  b1 (fX11_isHouse x1 μ) (fun r2 => (if r2 = 0 then some ((-1), μ) else b1 (fX10_search 17 x1 μ) (fun μ4 => some (μ4.1 177 2, μ4))))
def fX11_saves (x1 : Int32) (μ : Mem) : Option (Int32 × Mem) :=
  b1 (fX11_isHouse x1 μ) (fun r2 => (if r2 = 0 then some ((-100000), μ) else b2 (fX11_savedByOne x1 μ) (fun r5 μ4 => some (r5, μ4))))
def fX6_givenTo (q : Nat) (hn : Nat) (x1 : Int32) (μ : Mem) : Option Int32 :=
  (if x1 < 0 then some 0 else (if 6 ≤ x1 then some 0 else gd (ix x1 6) (some (μ.1 (q + 18) x1.toNatClampNeg))))
def fX11_share_b25 (x1 : Int32) (x2 : Int32) (μ : Mem) : Option (Int32 × Mem) :=
  b1 (fX6_weigh 120 31 17 24 x1 μ) (fun μ2 => (if x2 = (-1) then b1 (fX6_leastLoss 120 31 x1 μ2) (fun r8 => some (r8, μ2)) else b1 (fX6_shareOut 120 31 x1 μ2) (fun μ4 => b1 (fX6_givenTo 120 31 x2 μ4) (fun r6 => some (r6, μ4)))))
def fX11_share (x1 : Int32) (x2 : Int32) (μ : Mem) : Option (Int32 × Mem) :=
  (if x1 < 0 then some ((-1), μ) else (if 30 < x1 then some ((-1), μ) else (if x2 = (-1) then fX11_share_b25 x1 x2 μ else b1 (fX11_isHouse x2 μ) (fun r10 => (if r10 = 0 then some ((-1), μ) else fX11_share_b25 x1 x2 μ)))))
def fX11_summers_s18 (rec : Int32 → Int32 → Option Int32) (x1 : Int32) (x2 : Int32) (x3 : Int32) (μ : Mem) : Option Int32 :=
  (if (μ.1 17 2) ≤ x3 then some x2 else b1 (fX7_get 24 x3 3 μ) (fun r2 => (if r2 < x1 then rec x2 (x3 + 1) else rec (x2 + 1) (x3 + 1))))
def fX11_summers_l18 (x1 : Int32) (μ : Mem) : Nat → Int32 → Int32 → Option Int32
  | 0, _, _ => none
  | n + 1, x2, x3 => fX11_summers_s18 (fX11_summers_l18 x1 μ n) x1 x2 x3 μ
def fX11_summers (x1 : Int32) (μ : Mem) : Option Int32 :=
  (if x1 < 1 then some (-1) else (if x1 ≤ 999 then fX11_summers_l18 x1 μ FU 0 0 else some (-1)))
def fX9_add (x1 : Int32) (x2 : Int32) (x3 : Int32) (μ : Mem) : Option (Int32 × Mem) :=
  (if (μ.1 186 3) < 20 then gd (ix (μ.1 186 3) 20) (bd (upI μ 187 ((μ.1 186 3).toNatClampNeg) x1) (fun μ2 => gd (ix (μ2.1 186 3) 20) (bd (upI μ2 188 ((μ2.1 186 3).toNatClampNeg) x2) (fun μ5 => gd (ix (μ5.1 186 3) 20) (bd (upI μ5 189 ((μ5.1 186 3).toNatClampNeg) (x3 &&& 1)) (fun μ8 => bd (upI μ8 186 3 ((μ8.1 186 3) + 1)) (fun μ10 => some ((μ10.1 186 3) - 1, μ10)))))))) else some ((-1), μ))
def fX11_tell (x1 : Int32) (x2 : Int32) (x3 : Int32) (μ : Mem) : Option (Int32 × Mem) :=
  (if x1 < 0 then some ((-1), μ) else (if 4 ≤ x1 then some ((-1), μ) else (if x2 < 0 then some ((-1), μ) else (if x2 ≤ 999 then b2 (fX9_add x1 x2 x3 μ) (fun r3 μ2 => some (r3, μ2)) else some ((-1), μ)))))
def fX11_then (x1 : Int32) (x2 : Int32) (x3 : Int32) (μ : Mem) : Option (Int32 × Mem) :=
  b1 (fX11_isHouse x1 μ) (fun r2 => (if r2 = 0 then some ((-1), μ) else (if x2 < 0 then some ((-1), μ) else (if 60 < x2 then some ((-1), μ) else (if x3 < 0 then some ((-1), μ) else (if x3 ≤ 2 then b1 (fX11_lookAhead x1 x2 (μ.1 17 6) μ) (fun μ4 => (if x3 = 0 then b1 (fX7_get 26 x1 2 μ4) (fun r6 => some (r6, μ4)) else if x3 = 1 then b1 (fX7_get 26 x1 3 μ4) (fun r9 => some (r9, μ4)) else b1 (fX7_get 26 x1 1 μ4) (fun r12 => some (r12, μ4)))) else some ((-1), μ)))))))
def fX11_twins_s39 (rec : Int32 → Int32 → Int32 → Option Int32) (K : Int32 → Int32 → Option Int32) (x4 : Int32) (x2 : Int32) (x3 : Int32) (x5 : Int32) (μ : Mem) : Option Int32 :=
  (if (μ.1 17 2) ≤ x5 then K x2 x3 else b1 (fX7_keptApart 24 x4 x5 μ) (fun r4 => (if x3 ≤ r4 then rec x2 x3 (x5 + 1) else bd ((10 * x4) + x5) (fun y5 => rec y5 r4 (x5 + 1)))))
def fX11_twins_l39 (K : Int32 → Int32 → Option Int32) (x4 : Int32) (μ : Mem) : Nat → Int32 → Int32 → Int32 → Option Int32
  | 0, _, _, _ => none
  | n + 1, x2, x3, x5 => fX11_twins_s39 (fX11_twins_l39 K x4 μ n) K x4 x2 x3 x5 μ
def fX11_twins_s21 (rec : Int32 → Int32 → Int32 → Option Int32) (K : Int32 → Int32 → Option Int32) (x2 : Int32) (x3 : Int32) (x4 : Int32) (μ : Mem) : Option Int32 :=
  (if (μ.1 17 2) ≤ x4 then K x2 x3 else bd (x4 + 1) (fun y1 => fX11_twins_l39 (fun y7 y8 => rec y7 y8 (x4 + 1)) x4 μ FU x2 x3 y1))
def fX11_twins_l21 (K : Int32 → Int32 → Option Int32) (μ : Mem) : Nat → Int32 → Int32 → Int32 → Option Int32
  | 0, _, _, _ => none
  | n + 1, x2, x3, x4 => fX11_twins_s21 (fX11_twins_l21 K μ n) K x2 x3 x4 μ
def fX11_twins_b11 (x1 : Int32) (μ : Mem) : Option Int32 :=
  fX11_twins_l21 (fun y9 y10 => (if x1 = 0 then some y9 else (if y9 = (-2) then some y9 else some y10))) μ FU (-2) 1000000 0
def fX11_twins (x1 : Int32) (μ : Mem) : Option Int32 :=
  (if x1 = 0 then fX11_twins_b11 x1 μ else (if x1 = 1 then fX11_twins_b11 x1 μ else some (-1)))
def fX11_undo (μ : Mem) : Option (Int32 × Mem) :=
  b2 (fX0_pop 24 μ) (fun r3 μ2 => some (r3 &&& 1, μ2))
def fX11_whose_b26 (x1 : Int32) (x2 : Int32) (μ : Mem) : Option Int32 :=
  b1 (fX9_fitting 24 (μ.1 17 2) x1 μ) (fun r2 => (if x2 = 0 then b1 (fJ6_bitCount_0f7a4 r2) (fun r4 => some r4) else some r2))
def fX11_whose (x1 : Int32) (x2 : Int32) (μ : Mem) : Option Int32 :=
  (if x1 < 0 then some (-1) else (if (μ.1 186 3) < x1 then some (-1) else (if x2 = 0 then fX11_whose_b26 x1 x2 μ else (if x2 = 1 then fX11_whose_b26 x1 x2 μ else some (-1)))))
def fX11_worst_s20 (rec : Int32 → Int32 → Int32 → Mem → Option (Int32 × Mem)) (x1 : Int32) (x2 : Int32) (x3 : Int32) (x4 : Int32) (μ : Mem) : Option (Int32 × Mem) :=
  (if (μ.1 17 2) ≤ x4 then (if x1 = 0 then some (x2, μ) else some (x3, μ)) else b2 (fX3_fades 17 24 x4 μ) (fun r3 μ2 => (if r3 ≤ x3 then rec x2 x3 (x4 + 1) μ2 else rec x4 r3 (x4 + 1) μ2)))
def fX11_worst_l20 (x1 : Int32) : Nat → Int32 → Int32 → Int32 → Mem → Option (Int32 × Mem)
  | 0, _, _, _, _ => none
  | n + 1, x2, x3, x4, μ => fX11_worst_s20 (fX11_worst_l20 x1 n) x1 x2 x3 x4 μ
def fX11_worst_b11 (x1 : Int32) (μ : Mem) : Option (Int32 × Mem) :=
  fX11_worst_l20 x1 FU (-2) (-2) 0 μ
def fX11_worst (x1 : Int32) (μ : Mem) : Option (Int32 × Mem) :=
  (if x1 = 0 then fX11_worst_b11 x1 μ else (if x1 = 1 then fX11_worst_b11 x1 μ else some ((-1), μ)))
def fX11_year_s37 (rec : Int32 → Int32 → Mem → Option (Int32 × Mem)) (x1 : Int32) (x2 : Int32) (x3 : Int32) (x4 : Int32) (x5 : Int32) (μ : Mem) : Option (Int32 × Mem) :=
  (if x3 ≤ x5 then some (x4, μ) else b1 (fX11_lookAhead x1 x2 ((μ.1 17 6) + x5) μ) (fun μ4 => b1 (fX7_get 26 x1 3 μ4) (fun r6 => (if r6 ≤ 0 then rec x4 (x5 + 1) μ4 else rec (x4 + 1) (x5 + 1) μ4))))
def fX11_year_l37 (x1 : Int32) (x2 : Int32) (x3 : Int32) : Nat → Int32 → Int32 → Mem → Option (Int32 × Mem)
  | 0, _, _, _ => none
  | n + 1, x4, x5, μ => fX11_year_s37 (fX11_year_l37 x1 x2 x3 n) x1 x2 x3 x4 x5 μ
def fX11_year (x1 : Int32) (x2 : Int32) (x3 : Int32) (μ : Mem) : Option (Int32 × Mem) :=
  b1 (fX11_isHouse x1 μ) (fun r2 => (if r2 = 0 then some ((-1), μ) else (if x2 < 0 then some ((-1), μ) else (if 60 < x2 then some ((-1), μ) else (if x3 < 1 then some ((-1), μ) else (if x3 ≤ 20 then fX11_year_l37 x1 x2 x3 FU 0 0 μ else some ((-1), μ)))))))
