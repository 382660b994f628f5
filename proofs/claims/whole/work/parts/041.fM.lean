def fX12_appends (x0 : Int64) (x2 : Int32) : Option Int64 :=
  (if x2 = 0 then some x0 else some ((27 * x0) + (((x2 - 97) + 1).toInt64)))
def fX12_back (x1 : Int32) (μ : Mem) : Option (Int32 × Mem) :=
  (if x1 < 0 then some ((-1), μ) else (if x1 ≤ (μ.1 0 2) then bd (upI μ 0 2 ((μ.1 0 2) - x1)) (fun μ1 => some (μ1.1 0 2, μ1)) else some ((-1), μ)))
def fX12_many (μ : Mem) : Option Int32 :=
  gd (ix (μ.1 0 18) 2) (some (μ.1 9 ((μ.1 0 18).toNatClampNeg)))
def fX12_begins_s2 (rec : Int32 → Mem → Option Mem) (K : Mem → Option Mem) (x1 : Int32) (μ : Mem) : Option Mem :=
  (if 39 ≤ x1 then K μ else gd (ix x1 39) (bd (upI μ 32 x1.toNatClampNeg 0) (fun μ2 => rec (x1 + 1) μ2)))
def fX12_begins_l2 (K : Mem → Option Mem) : Nat → Int32 → Mem → Option Mem
  | 0, _, _ => none
  | n + 1, x1, μ => fX12_begins_s2 (fX12_begins_l2 K n) K x1 μ
def fX12_begins_s23 (rec : Int32 → Mem → Option Mem) (K : Mem → Option Mem) (x1 : Int32) (μ : Mem) : Option Mem :=
  b1 (fX12_many μ) (fun r6 => (if r6 ≤ x1 then K μ else gd (ix ((6 * (μ.1 0 18)) + x1) 12) (gd (ix (6 + x1) 39) (bd (upI μ 32 ((6 + x1).toNatClampNeg) (μ.1 11 (((6 * (μ.1 0 18)) + x1).toNatClampNeg))) (fun μ9 => gd (ix ((6 * (μ9.1 0 18)) + x1) 12) (gd (ix (12 + x1) 39) (bd (upI μ9 32 ((12 + x1).toNatClampNeg) (μ9.1 12 (((6 * (μ9.1 0 18)) + x1).toNatClampNeg))) (fun μ13 => rec (x1 + 1) μ13))))))))
def fX12_begins_l23 (K : Mem → Option Mem) : Nat → Int32 → Mem → Option Mem
  | 0, _, _ => none
  | n + 1, x1, μ => fX12_begins_s23 (fX12_begins_l23 K n) K x1 μ
def fX12_begins (μ : Mem) : Option Mem :=
  fX12_begins_l2 (fun μ4 => fX12_begins_l23 (fun μ15 => gd (ix (μ15.1 0 18) 2) (bd (upI μ15 32 37 (μ15.1 15 ((μ15.1 0 18).toNatClampNeg))) (fun μ17 => gd (ix (μ17.1 0 18) 2) (bd (upI μ17 0 49 (μ17.1 18 ((μ17.1 0 18).toNatClampNeg))) (fun μ20 => bd (upI μ20 0 50 0) (fun μ22 => some μ22)))))) FU 0 μ4) FU 0 μ
def fX12_copies_s2 (rec : Int32 → Mem → Option Mem) (K : Mem → Option Mem) (x1 : Int32) (μ : Mem) : Option Mem :=
  (if 39 ≤ x1 then K μ else gd (ix x1 39) (gd (ix x1 39) (bd (upI μ 32 x1.toNatClampNeg (μ.1 31 x1.toNatClampNeg)) (fun μ3 => rec (x1 + 1) μ3))))
def fX12_copies_l2 (K : Mem → Option Mem) : Nat → Int32 → Mem → Option Mem
  | 0, _, _ => none
  | n + 1, x1, μ => fX12_copies_s2 (fX12_copies_l2 K n) K x1 μ
def fX12_copies (μ : Mem) : Option Mem :=
  fX12_copies_l2 (fun μ5 => gd (ix (μ5.1 0 18) 2) (bd (upI μ5 0 49 (μ5.1 18 ((μ5.1 0 18).toNatClampNeg))) (fun μ7 => bd (upI μ7 0 50 0) (fun μ9 => some μ9)))) FU 0 μ
def fX12_copiesStill (μ : Mem) : Option Mem :=
  b1 (fX12_copies μ) (fun μ2 => bd (upI μ2 0 50 1) (fun μ3 => some μ3))
def fX12_panesAt (x1 : Int32) (μ : Mem) : Option Int32 :=
  gd (ix ((6 * (μ.1 0 18)) + x1) 12) (some (μ.1 10 (((6 * (μ.1 0 18)) + x1).toNatClampNeg)))
def fX12_termOf_b104 (rec : Int32 → Int32 → Mem → Option (Int32 × Mem)) (x2 : Int32) (x3 : Int32) (x4 : Int32) (x5 : Int32) (x6 : Int32) (x7 : Int32) (μ : Mem) : Option (Int32 × Mem) :=
  (if x5 = 2 then gd (ix (x3 - 1) 400) (bd (upI μ 30 ((x3 - 1).toNatClampNeg) (x6 + x7)) (fun μ21 => rec x3 (x4 + 1) μ21)) else (if x5 = 3 then gd (ix (x3 - 1) 400) (bd (upI μ 30 ((x3 - 1).toNatClampNeg) (x6 - x7)) (fun μ18 => rec x3 (x4 + 1) μ18)) else (if x5 = 4 then gd (ix (x3 - 1) 400) (bd (upI μ 30 ((x3 - 1).toNatClampNeg) (x6 * x7)) (fun μ15 => rec x3 (x4 + 1) μ15)) else gd (dz x7) (gd (ix (x3 - 1) 400) (bd (upI μ 30 ((x3 - 1).toNatClampNeg) (x6 / x7)) (fun μ12 => rec x3 (x4 + 1) μ12))))))
def fX12_termOf_s5 (rec : Int32 → Int32 → Mem → Option (Int32 × Mem)) (x2 : Int32) (x3 : Int32) (x4 : Int32) (μ : Mem) : Option (Int32 × Mem) :=
  (if x2 ≤ x4 then some (μ.1 30 0, μ) else gd (ix x4 840) (bd (μ.1 26 x4.toNatClampNeg) (fun y2 => (if 2 ≤ y2 then gd (ix ((x3 + (-1)) - 1) 400) (bd (μ.1 30 (((x3 + (-1)) - 1).toNatClampNeg)) (fun y5 => gd (ix (x3 + (-1)) 400) (bd (μ.1 30 ((x3 + (-1)).toNatClampNeg)) (fun y8 => (if y2 = 5 then (if y8 = 0 then bd (upI μ 0 46 1) (fun μ23 => some (0, μ23)) else fX12_termOf_b104 rec x2 (x3 + (-1)) x4 y2 y5 y8 μ) else fX12_termOf_b104 rec x2 (x3 + (-1)) x4 y2 y5 y8 μ))))) else (if y2 = 0 then gd (ix x4 840) (gd (ix x3 400) (bd (upI μ 30 x3.toNatClampNeg (μ.1 27 x4.toNatClampNeg)) (fun μ32 => rec (x3 + 1) (x4 + 1) μ32))) else gd (ix x4 840) (gd (ix (μ.1 27 x4.toNatClampNeg) 9) (gd (ix x3 400) (bd (upI μ 30 x3.toNatClampNeg (μ.1 29 ((μ.1 27 x4.toNatClampNeg).toNatClampNeg))) (fun μ28 => rec (x3 + 1) (x4 + 1) μ28)))))))))
def fX12_termOf_l5 (x2 : Int32) : Nat → Int32 → Int32 → Mem → Option (Int32 × Mem)
  | 0, _, _, _ => none
  | n + 1, x3, x4, μ => fX12_termOf_s5 (fX12_termOf_l5 x2 n) x2 x3 x4 μ
def fX12_termOf (x1 : Int32) (x2 : Int32) (μ : Mem) : Option (Int32 × Mem) :=
  fX12_termOf_l5 x2 FU 0 x1 μ
def fX12_lawTells_s39 (rec : Int32 → Mem → Option (Int32 × Mem)) (K : Int32 → Mem → Option (Int32 × Mem)) (x3 : Int32) (x4 : Int32) (μ : Mem) : Option (Int32 × Mem) :=
  gd (ix x3 8) ((if (μ.1 20 x3.toNatClampNeg) ≤ x4 then some (0, μ) else gd (ix x4 260) ((if (μ.1 21 x4.toNatClampNeg) = 0 then K x4 μ else gd (ix x4 260) (gd (ix x4 260) (b2 (fX12_termOf (μ.1 22 x4.toNatClampNeg) (μ.1 23 x4.toNatClampNeg) μ) (fun r16 μ15 => gd (ix x4 260) (gd (ix x4 260) (b2 (fX12_termOf (μ15.1 23 x4.toNatClampNeg) (μ15.1 24 x4.toNatClampNeg) μ15) (fun r21 μ20 => (if (μ20.1 0 46) = 0 then (if r16 < r21 then K x4 μ20 else rec (x4 + 1) μ20) else some (0, μ20))))))))))))
def fX12_lawTells_l39 (K : Int32 → Mem → Option (Int32 × Mem)) (x3 : Int32) : Nat → Int32 → Mem → Option (Int32 × Mem)
  | 0, _, _ => none
  | n + 1, x4, μ => fX12_lawTells_s39 (fX12_lawTells_l39 K x3 n) K x3 x4 μ
def fX12_lawTells_b119 (x4 : Int32) (μ : Mem) : Option (Int32 × Mem) :=
  gd (ix x4 260) (gd (ix x4 260) (b2 (fX12_termOf (μ.1 24 x4.toNatClampNeg) (μ.1 25 x4.toNatClampNeg) μ) (fun r28 μ27 => (if (μ27.1 0 46) = 0 then some (r28, μ27) else some (0, μ27)))))
def fX12_lawTells (x1 : Int32) (x2 : Int32) (μ : Mem) : Option (Int32 × Mem) :=
  bd ((4 * (μ.1 0 18)) + x1) (fun y1 => gd (ix y1 8) (gd (ix y1 8) ((if (μ.1 19 y1.toNatClampNeg) = (μ.1 20 y1.toNatClampNeg) then some (x2, μ) else bd (upI μ 0 46 0) (fun μ5 => gd (ix y1 8) (bd (μ5.1 19 y1.toNatClampNeg) (fun y8 => fX12_lawTells_l39 (fun y22 μ23 => fX12_lawTells_b119 y22 μ23) y1 FU y8 μ5)))))))
def fX12_within (x0 : Int32) (x1 : Int32) (x2 : Int32) : Option Int32 :=
  (if x1 ≤ x0 then (if x0 ≤ x2 then some x0 else some x2) else some x1)
def fX12_lawOf_s14 (rec : Int32 → Mem → Option (Int32 × Mem)) (K : Mem → Option (Int32 × Mem)) (x1 : Int32) (x5 : Int32) (μ : Mem) : Option (Int32 × Mem) :=
  (if 4 ≤ x5 then K μ else gd (ix ((6 * x5) + x1) 39) (gd (ix (1 + x5) 9) (bd (upI μ 29 ((1 + x5).toNatClampNeg) (μ.1 32 (((6 * x5) + x1).toNatClampNeg))) (fun μ7 => rec (x5 + 1) μ7))))
def fX12_lawOf_l14 (K : Mem → Option (Int32 × Mem)) (x1 : Int32) : Nat → Int32 → Mem → Option (Int32 × Mem)
  | 0, _, _ => none
  | n + 1, x5, μ => fX12_lawOf_s14 (fX12_lawOf_l14 K x1 n) K x1 x5 μ
def fX12_lawOf (x1 : Int32) (x2 : Int32) (x3 : Int32) (x4 : Int32) (μ : Mem) : Option (Int32 × Mem) :=
  b1 (fX12_panesAt x1 μ) (fun r2 => bd (upI μ 29 0 r2) (fun μ3 => fX12_lawOf_l14 (fun μ9 => bd (upI μ9 29 5 (μ9.1 32 36)) (fun μ10 => bd (upI μ10 29 6 x1) (fun μ12 => gd (ix (24 + x1) 39) (bd (upI μ12 29 7 (μ12.1 32 ((24 + x1).toNatClampNeg))) (fun μ15 => gd (ix (30 + x1) 39) (bd (upI μ15 29 8 (μ15.1 32 ((30 + x1).toNatClampNeg))) (fun μ18 => b2 (fX12_lawTells x2 x3 μ18) (fun r22 μ21 => b1 (fX12_within r22 0 x4) (fun r24 => some (r24, μ21)))))))))) x1 FU 0 μ3))
def fX12_fadesOf (x1 : Int32) (μ : Mem) : Option (Int32 × Mem) :=
  gd (ix (12 + x1) 39) (b2 (fX12_lawOf x1 2 1 (μ.1 32 ((12 + x1).toNatClampNeg)) μ) (fun r4 μ3 => some (r4, μ3)))
def fX12_coolsOf (x1 : Int32) (μ : Mem) : Option (Int32 × Mem) :=
  gd (ix x1 39) (b2 (fX12_lawOf x1 0 ((μ.1 32 x1.toNatClampNeg) + 1) 99 μ) (fun r4 μ3 => some (r4, μ3)))
def fX12_chillOf (x1 : Int32) (μ : Mem) : Option (Int32 × Mem) :=
  b2 (fX12_coolsOf x1 μ) (fun r3 μ2 => gd (ix (18 + x1) 39) (some (r3 * ((μ2.1 32 ((18 + x1).toNatClampNeg)) + 1), μ2)))
def fX12_mixed (x0 : Int32) (x1 : Int32) : Option Int32 :=
  bd (((x0 ^^^ x1) * 1103515245) + 12345) (fun y1 => some (y1 ^^^ (ushr y1 15)))
def fX12_lotOf (x1 : Int32) (x2 : Int32) (μ : Mem) : Option Int32 :=
  b1 (fX12_mixed (μ.1 0 49) 177) (fun r2 => b1 (fX12_mixed r2 x1) (fun r4 => gd (dz x2) (some ((ushr r4 1) - (ushr r4 1) / x2 * x2))))
def fX12_isHail (μ : Mem) : Option Int32 :=
  b1 (fX12_lotOf (4 * (μ.1 32 36)) 100 μ) (fun r2 => gd (ix (μ.1 0 18) 2) ((if (μ.1 17 ((μ.1 0 18).toNatClampNeg)) ≤ r2 then some 0 else some 1)))
def fX12_dayGoes_s2 (rec : Int32 → Mem → Option Mem) (K : Mem → Option Mem) (x1 : Int32) (μ : Mem) : Option Mem :=
  b1 (fX12_many μ) (fun r2 => (if r2 ≤ x1 then K μ else b2 (fX12_fadesOf x1 μ) (fun r5 μ4 => gd (ix x1 6) (bd (upI μ4 33 x1.toNatClampNeg r5) (fun μ7 => b2 (fX12_chillOf x1 μ7) (fun r11 μ10 => gd (ix x1 6) (bd (upI μ10 34 x1.toNatClampNeg r11) (fun μ13 => rec (x1 + 1) μ13))))))))
def fX12_dayGoes_l2 (K : Mem → Option Mem) : Nat → Int32 → Mem → Option Mem
  | 0, _, _ => none
  | n + 1, x1, μ => fX12_dayGoes_s2 (fX12_dayGoes_l2 K n) K x1 μ
def fX12_dayGoes_s40 (rec : Int32 → Mem → Option Mem) (K : Mem → Option Mem) (x1 : Int32) (μ : Mem) : Option Mem :=
  b1 (fX12_many μ) (fun r17 => (if r17 ≤ x1 then K μ else gd (ix (12 + x1) 39) (gd (ix x1 6) (gd (ix (12 + x1) 39) (bd (upI μ 32 ((12 + x1).toNatClampNeg) ((μ.1 32 ((12 + x1).toNatClampNeg)) - (μ.1 33 x1.toNatClampNeg))) (fun μ21 => gd (ix (6 + x1) 39) (gd (ix x1 6) (b1 (fX12_within ((μ21.1 32 ((6 + x1).toNatClampNeg)) - (μ21.1 34 x1.toNatClampNeg)) 0 999) (fun r26 => gd (ix (6 + x1) 39) (bd (upI μ21 32 ((6 + x1).toNatClampNeg) r26) (fun μ28 => gd (ix (30 + x1) 39) (bd (upI μ28 32 ((30 + x1).toNatClampNeg) 0) (fun μ31 => rec (x1 + 1) μ31)))))))))))))
def fX12_dayGoes_l40 (K : Mem → Option Mem) : Nat → Int32 → Mem → Option Mem
  | 0, _, _ => none
  | n + 1, x1, μ => fX12_dayGoes_s40 (fX12_dayGoes_l40 K n) K x1 μ
def fX12_dayGoes_b179 (μ : Mem) : Option Mem :=
  bd (upI μ 32 36 ((μ.1 32 36) + 1)) (fun μ34 => some μ34)
def fX12_dayGoes (μ : Mem) : Option Mem :=
  fX12_dayGoes_l2 (fun μ15 => fX12_dayGoes_l40 (fun μ33 => (if (μ33.1 0 50) = 0 then b1 (fX12_many μ33) (fun r37 => (if r37 ≤ 0 then fX12_dayGoes_b179 μ33 else b1 (fX12_isHail μ33) (fun r39 => (if r39 = 0 then fX12_dayGoes_b179 μ33 else b1 (fX12_many μ33) (fun r41 => b1 (fX12_lotOf ((4 * (μ33.1 32 36)) + 1) r41 μ33) (fun r43 => gd (ix r43 39) (b1 (fX12_panesAt r43 μ33) (fun r46 => (if r46 ≤ (μ33.1 32 r43.toNatClampNeg) then fX12_dayGoes_b179 μ33 else gd (ix r43 39) (gd (ix r43 39) (bd (upI μ33 32 r43.toNatClampNeg ((μ33.1 32 r43.toNatClampNeg) + 1)) (fun μ49 => fX12_dayGoes_b179 μ49)))))))))))) else fX12_dayGoes_b179 μ33)) FU 0 μ15) FU 0 μ
def fX12_behindNone_s6 (rec : Int32 → Mem → Option (Int32 × Mem)) (x1 : Int32) (x2 : Int32) (μ : Mem) : Option (Int32 × Mem) :=
  (if 200 < x2 then some ((-2), μ) else gd (ix x1 39) ((if (μ.1 32 x1.toNatClampNeg) = 0 then some (x2, μ) else b1 (fX12_dayGoes μ) (fun μ5 => rec (x2 + 1) μ5))))
def fX12_behindNone_l6 (x1 : Int32) : Nat → Int32 → Mem → Option (Int32 × Mem)
  | 0, _, _ => none
  | n + 1, x2, μ => fX12_behindNone_s6 (fX12_behindNone_l6 x1 n) x1 x2 μ
def fX12_behindNone (x1 : Int32) (μ : Mem) : Option (Int32 × Mem) :=
  b1 (fX12_copiesStill μ) (fun μ2 => fX12_behindNone_l6 x1 FU 0 μ2)
def fX12_bits_s4 (rec : Int32 → Int32 → Option Int32) (x0 : Int32) (x1 : Int32) (x2 : Int32) : Option Int32 :=
  (if 6 ≤ x2 then some x1 else bd (x1 + ((x0 >>> (x2 &&& 31)) &&& 1)) (fun y1 => rec y1 (x2 + 1)))
def fX12_bits_l4 (x0 : Int32) : Nat → Int32 → Int32 → Option Int32
  | 0, _, _ => none
  | n + 1, x1, x2 => fX12_bits_s4 (fX12_bits_l4 x0 n) x0 x1 x2
def fX12_bits (x0 : Int32) : Option Int32 :=
  fX12_bits_l4 x0 FU 0 0
def fX12_is (x1 : Int32) (μ : Mem) : Option Int32 :=
  (if (μ.1 0 13) = 0 then gd (ix (μ.1 0 11) 403) ((if (μ.1 3 ((μ.1 0 11).toNatClampNeg)) = x1 then some 1 else some 0)) else some 0)
def fX12_fail (x1 : Int32) (μ : Mem) : Option Mem :=
  (if (μ.1 0 13) ≤ 0 then bd (upI μ 0 13 x1) (fun μ1 => gd (ix (μ1.1 0 11) 403) (bd (upI μ1 0 14 (μ1.1 4 ((μ1.1 0 11).toNatClampNeg))) (fun μ4 => some μ4))) else some μ)
def fX12_wrong (x1 : Int32) (x2 : Int32) (μ : Mem) : Option Mem :=
  gd (ix x2 403) (bd (μ.1 4 x2.toNatClampNeg) (fun y2 => (if 0 < (μ.1 0 13) then some μ else (if (μ.1 0 15) = 0 then bd (upI μ 0 15 x1) (fun μ4 => bd (upI μ4 0 16 y2) (fun μ6 => some μ6)) else (if (μ.1 0 16) < y2 then some μ else (if y2 = (μ.1 0 16) then (if x1 < (μ.1 0 15) then bd (upI μ 0 15 x1) (fun μ12 => bd (upI μ12 0 16 y2) (fun μ14 => some μ14)) else some μ) else bd (upI μ 0 15 x1) (fun μ8 => bd (upI μ8 0 16 y2) (fun μ10 => some μ10))))))))
def fX12_goesOn (μ : Mem) : Option Mem :=
  (if (μ.1 0 11) = 400 then b1 (fX12_fail 2 μ) (fun μ4 => some μ4) else bd (upI μ 0 11 ((μ.1 0 11) + 1)) (fun μ1 => some μ1))
def fX12_bounded_b42 (x3 : Int32) (μ : Mem) : Option (Int32 × Mem) :=
  b1 (fX12_wrong 5 (μ.1 0 11) μ) (fun μ9 => b1 (fX12_goesOn μ9) (fun μ11 => some (x3, μ11)))
def fX12_bounded (x1 : Int32) (x2 : Int32) (μ : Mem) : Option (Int32 × Mem) :=
  (if 0 < (μ.1 0 13) then b1 (fX12_fail 1 μ) (fun μ2 => some (x1, μ2)) else b1 (fX12_is 2 μ) (fun r4 => (if r4 = 0 then b1 (fX12_fail 1 μ) (fun μ15 => some (x1, μ15)) else gd (ix (μ.1 0 11) 403) (bd (μ.1 5 ((μ.1 0 11).toNatClampNeg)) (fun y6 => (if y6 < x1 then fX12_bounded_b42 y6 μ else (if y6 ≤ x2 then b1 (fX12_goesOn μ) (fun μ13 => some (y6, μ13)) else fX12_bounded_b42 y6 μ)))))))
def fX12_in (x0 : Int32) (x1 : Int32) (x2 : Int32) : Option Int32 :=
  (if x0 < x1 then some 0 else (if x2 < x0 then some 0 else some 1))
def fX12_keepsRow_s2 (rec : Int32 → Mem → Option Mem) (x1 : Int32) (μ : Mem) : Option Mem :=
  (if 39 ≤ x1 then some μ else gd (ix x1 39) (gd (ix x1 39) (bd (upI μ 31 x1.toNatClampNeg (μ.1 32 x1.toNatClampNeg)) (fun μ3 => rec (x1 + 1) μ3))))
def fX12_keepsRow_l2 : Nat → Int32 → Mem → Option Mem
  | 0, _, _ => none
  | n + 1, x1, μ => fX12_keepsRow_s2 (fX12_keepsRow_l2 n) x1 μ
def fX12_keepsRow (μ : Mem) : Option Mem :=
  fX12_keepsRow_l2 FU 0 μ
def fX12_records_s51 (rec : Int32 → Mem → Option Mem) (x1 : Int32) (μ : Mem) : Option Mem :=
  (if 39 ≤ x1 then bd (upI μ 0 53 ((μ.1 0 53) + 1)) (fun μ1 => b1 (fX12_keepsRow μ1) (fun μ4 => some μ4)) else gd (ix x1 39) (gd (ix ((39 * (μ.1 0 53)) + x1) 1560) (bd (upI μ 35 (((39 * (μ.1 0 53)) + x1).toNatClampNeg) (μ.1 31 x1.toNatClampNeg)) (fun μ7 => rec (x1 + 1) μ7))))
def fX12_records_l51 : Nat → Int32 → Mem → Option Mem
  | 0, _, _ => none
  | n + 1, x1, μ => fX12_records_s51 (fX12_records_l51 n) x1 μ
def fX12_records_b49 (μ : Mem) : Option Mem :=
  fX12_records_l51 FU 0 μ
def fX12_records_s11 (rec : Int32 → Mem → Option Mem) (K : Mem → Option Mem) (x1 : Int32) (μ : Mem) : Option Mem :=
  (if 1521 ≤ x1 then K μ else gd (ix (x1 + 39) 1560) (gd (ix x1 1560) (bd (upI μ 35 x1.toNatClampNeg (μ.1 35 ((x1 + 39).toNatClampNeg))) (fun μ11 => rec (x1 + 1) μ11))))
def fX12_records_l11 (K : Mem → Option Mem) : Nat → Int32 → Mem → Option Mem
  | 0, _, _ => none
  | n + 1, x1, μ => fX12_records_s11 (fX12_records_l11 K n) K x1 μ
def fX12_records (μ : Mem) : Option Mem :=
  (if (μ.1 0 53) = 40 then fX12_records_l11 (fun μ13 => bd (upI μ13 0 53 ((μ13.1 0 53) - 1)) (fun μ14 => fX12_records_b49 μ14)) FU 0 μ else fX12_records_b49 μ)
def fX12_bring (x1 : Int32) (μ : Mem) : Option (Int32 × Mem) :=
  b1 (fX12_in x1 1 99) (fun r2 => (if r2 = 0 then some ((-1), μ) else b1 (fX12_copies μ) (fun μ4 => b1 (fX12_within ((μ4.1 32 37) + x1) 0 9999) (fun r6 => bd (upI μ4 32 37 r6) (fun μ7 => b1 (fX12_records μ7) (fun μ10 => some (μ10.1 31 37, μ10)))))))
def fX12_isHouse (x1 : Int32) (μ : Mem) : Option Int32 :=
  b1 (fX12_many μ) (fun r2 => b1 (fX12_in x1 0 (r2 - 1)) (fun r4 => some (r4 &&& 1)))
def fX12_warmsOf (x1 : Int32) (μ : Mem) : Option (Int32 × Mem) :=
  b2 (fX12_lawOf x1 1 5 99 μ) (fun r3 μ2 => some (r3, μ2))
def fX12_burnsOne (x1 : Int32) (μ : Mem) : Option Mem :=
  gd (ix (6 + x1) 39) (b2 (fX12_warmsOf x1 μ) (fun r4 μ3 => b1 (fX12_within ((μ.1 32 ((6 + x1).toNatClampNeg)) + r4) 0 999) (fun r6 => gd (ix (6 + x1) 39) (bd (upI μ3 32 ((6 + x1).toNatClampNeg) r6) (fun μ8 => gd (ix (30 + x1) 39) (gd (ix (30 + x1) 39) (bd (upI μ8 32 ((30 + x1).toNatClampNeg) ((μ8.1 32 ((30 + x1).toNatClampNeg)) + 1)) (fun μ12 => some μ12))))))))
def fX12_burns_s2 (rec : Int32 → Mem → Option Mem) (x1 : Int32) (x2 : Int32) (x3 : Int32) (μ : Mem) : Option Mem :=
  (if x2 ≤ x3 then some μ else b1 (fX12_burnsOne x1 μ) (fun μ2 => rec (x3 + 1) μ2))
def fX12_burns_l2 (x1 : Int32) (x2 : Int32) : Nat → Int32 → Mem → Option Mem
  | 0, _, _ => none
  | n + 1, x3, μ => fX12_burns_s2 (fX12_burns_l2 x1 x2 n) x1 x2 x3 μ
def fX12_burns (x1 : Int32) (x2 : Int32) (μ : Mem) : Option Mem :=
  fX12_burns_l2 x1 x2 FU 0 μ
def fX12_burn (x1 : Int32) (x2 : Int32) (μ : Mem) : Option (Int32 × Mem) :=
  b1 (fX12_isHouse x1 μ) (fun r2 => (if r2 = 0 then some ((-1), μ) else b1 (fX12_in x2 1 99) (fun r4 => (if r4 = 0 then some ((-1), μ) else (if x2 ≤ (μ.1 31 37) then b1 (fX12_copies μ) (fun μ6 => b1 (fX12_burns x1 x2 μ6) (fun μ8 => bd (upI μ8 32 37 ((μ8.1 32 37) - x2)) (fun μ9 => bd (upI μ9 32 38 ((μ9.1 32 38) + x2)) (fun μ11 => b1 (fX12_records μ11) (fun μ14 => gd (ix (6 + x1) 39) (some (μ14.1 31 ((6 + x1).toNatClampNeg), μ14))))))) else some ((-1), μ))))))
def fX12_fillsLoss_s34 (rec : Int32 → Mem → Option Mem) (K : Mem → Option Mem) (x1 : Int32) (x2 : Int32) (x5 : Int32) (μ : Mem) : Option Mem :=
  (if x1 < x5 then K μ else b2 (fX12_fadesOf x2 μ) (fun r11 μ10 => gd (ix ((31 * x2) + x5) 186) (bd (upI μ10 36 (((31 * x2) + x5).toNatClampNeg) r11) (fun μ13 => (if x1 ≤ x5 then rec (x5 + 1) μ13 else b1 (fX12_burnsOne x2 μ13) (fun μ16 => rec (x5 + 1) μ16))))))
def fX12_fillsLoss_l34 (K : Mem → Option Mem) (x1 : Int32) (x2 : Int32) : Nat → Int32 → Mem → Option Mem
  | 0, _, _ => none
  | n + 1, x5, μ => fX12_fillsLoss_s34 (fX12_fillsLoss_l34 K x1 x2 n) K x1 x2 x5 μ
def fX12_fillsLoss_s2 (rec : Int32 → Mem → Option Mem) (x1 : Int32) (x2 : Int32) (μ : Mem) : Option Mem :=
  b1 (fX12_many μ) (fun r2 => (if r2 ≤ x2 then some μ else gd (ix (6 + x2) 39) (bd (μ.1 32 ((6 + x2).toNatClampNeg)) (fun y4 => gd (ix (30 + x2) 39) (bd (μ.1 32 ((30 + x2).toNatClampNeg)) (fun y7 => fX12_fillsLoss_l34 (fun μ17 => gd (ix (6 + x2) 39) (bd (upI μ17 32 ((6 + x2).toNatClampNeg) y4) (fun μ19 => gd (ix (30 + x2) 39) (bd (upI μ19 32 ((30 + x2).toNatClampNeg) y7) (fun μ22 => rec (x2 + 1) μ22))))) x1 x2 FU 0 μ))))))
def fX12_fillsLoss_l2 (x1 : Int32) : Nat → Int32 → Mem → Option Mem
  | 0, _, _ => none
  | n + 1, x2, μ => fX12_fillsLoss_s2 (fX12_fillsLoss_l2 x1 n) x1 x2 μ
def fX12_fillsLoss (x1 : Int32) (μ : Mem) : Option Mem :=
  fX12_fillsLoss_l2 x1 FU 0 μ
def fX12_lossWith (x1 : Int32) (x2 : Int32) (x3 : Int32) (μ : Mem) : Option Int32 :=
  gd (ix ((31 * x1) + x2) 186) (gd (ix ((((31 * x1) + 31) + x3) - x2) 217) (some ((μ.1 36 (((31 * x1) + x2).toNatClampNeg)) + (μ.1 37 (((((31 * x1) + 31) + x3) - x2).toNatClampNeg)))))
def fX12_fillsShare_s7 (rec : Int32 → Mem → Option Mem) (K : Mem → Option Mem) (x1 : Int32) (x2 : Int32) (μ : Mem) : Option Mem :=
  (if x1 < x2 then K μ else b1 (fX12_many μ) (fun r4 => gd (ix ((31 * r4) + x2) 217) (bd (upI μ 37 (((31 * r4) + x2).toNatClampNeg) 0) (fun μ6 => rec (x2 + 1) μ6))))
def fX12_fillsShare_l7 (K : Mem → Option Mem) (x1 : Int32) : Nat → Int32 → Mem → Option Mem
  | 0, _, _ => none
  | n + 1, x2, μ => fX12_fillsShare_s7 (fX12_fillsShare_l7 K x1 n) K x1 x2 μ
def fX12_fillsShare_s63 (rec : Int32 → Int32 → Option Mem) (K : Int32 → Option Mem) (x2 : Int32) (x3 : Int32) (x4 : Int32) (x5 : Int32) (μ : Mem) : Option Mem :=
  (if x3 < x5 then K x4 else b1 (fX12_lossWith x2 x5 x3 μ) (fun r16 => (if x4 ≤ r16 then rec x4 (x5 + 1) else b1 (fX12_lossWith x2 x5 x3 μ) (fun r18 => rec r18 (x5 + 1)))))
def fX12_fillsShare_l63 (K : Int32 → Option Mem) (x2 : Int32) (x3 : Int32) (μ : Mem) : Nat → Int32 → Int32 → Option Mem
  | 0, _, _ => none
  | n + 1, x4, x5 => fX12_fillsShare_s63 (fX12_fillsShare_l63 K x2 x3 μ n) K x2 x3 x4 x5 μ
def fX12_fillsShare_s46 (rec : Int32 → Mem → Option Mem) (K : Mem → Option Mem) (x1 : Int32) (x2 : Int32) (x3 : Int32) (μ : Mem) : Option Mem :=
  (if x1 < x3 then K μ else b1 (fX12_lossWith x2 0 x3 μ) (fun r14 => fX12_fillsShare_l63 (fun y19 => gd (ix ((31 * x2) + x3) 217) (bd (upI μ 37 (((31 * x2) + x3).toNatClampNeg) y19) (fun μ21 => rec (x3 + 1) μ21))) x2 x3 μ FU r14 1))
def fX12_fillsShare_l46 (K : Mem → Option Mem) (x1 : Int32) (x2 : Int32) : Nat → Int32 → Mem → Option Mem
  | 0, _, _ => none
  | n + 1, x3, μ => fX12_fillsShare_s46 (fX12_fillsShare_l46 K x1 x2 n) K x1 x2 x3 μ
def fX12_fillsShare_s40 (rec : Int32 → Mem → Option Mem) (x1 : Int32) (x2 : Int32) (μ : Mem) : Option Mem :=
  (if x2 < 0 then some μ else fX12_fillsShare_l46 (fun μ23 => rec (x2 + (-1)) μ23) x1 x2 FU 0 μ)
def fX12_fillsShare_l40 (x1 : Int32) : Nat → Int32 → Mem → Option Mem
  | 0, _, _ => none
  | n + 1, x2, μ => fX12_fillsShare_s40 (fX12_fillsShare_l40 x1 n) x1 x2 μ
def fX12_fillsShare (x1 : Int32) (μ : Mem) : Option Mem :=
  b1 (fX12_fillsLoss x1 μ) (fun μ2 => fX12_fillsShare_l7 (fun μ8 => b1 (fX12_many μ8) (fun r10 => bd (r10 - 1) (fun y11 => fX12_fillsShare_l40 x1 FU y11 μ8))) x1 FU 0 μ2)
def fX12_shareFor_s2 (rec : Int32 → Option Int32) (x1 : Int32) (x2 : Int32) (x3 : Int32) (μ : Mem) : Option Int32 :=
  b1 (fX12_lossWith x1 x3 x2 μ) (fun r2 => gd (ix ((31 * x1) + x2) 217) ((if r2 = (μ.1 37 (((31 * x1) + x2).toNatClampNeg)) then some x3 else rec (x3 + 1))))
def fX12_shareFor_l2 (x1 : Int32) (x2 : Int32) (μ : Mem) : Nat → Int32 → Option Int32
  | 0, _ => none
  | n + 1, x3 => fX12_shareFor_s2 (fX12_shareFor_l2 x1 x2 μ n) x1 x2 x3 μ
def fX12_shareFor (x1 : Int32) (x2 : Int32) (μ : Mem) : Option Int32 :=
  fX12_shareFor_l2 x1 x2 μ FU 0
def fX12_burnsShared_s9 (rec : Int32 → Int32 → Mem → Option Mem) (x2 : Int32) (x3 : Int32) (μ : Mem) : Option Mem :=
  b1 (fX12_many μ) (fun r4 => (if r4 ≤ x3 then b1 (fX12_dayGoes μ) (fun μ6 => some μ6) else b1 (fX12_shareFor x3 x2 μ) (fun r8 => bd (x2 - r8) (fun y9 => b1 (fX12_burns x3 r8 μ) (fun μ12 => rec y9 (x3 + 1) μ12)))))
def fX12_burnsShared_l9 : Nat → Int32 → Int32 → Mem → Option Mem
  | 0, _, _, _ => none
  | n + 1, x2, x3, μ => fX12_burnsShared_s9 (fX12_burnsShared_l9 n) x2 x3 μ
def fX12_burnsShared (x1 : Int32) (μ : Mem) : Option Mem :=
  b1 (fX12_fillsShare x1 μ) (fun μ2 => fX12_burnsShared_l9 FU x1 0 μ2)
def fX12_byteAt (x1 : Int32) (μ : Mem) : Option Int32 :=
  (if (μ.1 0 4) ≤ x1 then some 0 else gd (ix x1 2000) (some ((μ.1 2 x1.toNatClampNeg) &&& 255)))
def fX12_cold (x1 : Int32) (μ : Mem) : Option (Int32 × Mem) :=
  b1 (fX12_isHouse x1 μ) (fun r2 => (if r2 = 0 then some ((-1), μ) else b2 (fX12_behindNone (6 + x1) μ) (fun r5 μ4 => some (r5, μ4))))
def fX12_emit (x1 : Int32) (x2 : Int32) (μ : Mem) : Option Mem :=
  gd (ix (μ.1 0 39) 840) (bd (upI μ 26 ((μ.1 0 39).toNatClampNeg) x1) (fun μ2 => gd (ix (μ2.1 0 39) 840) (bd (upI μ2 27 ((μ2.1 0 39).toNatClampNeg) x2) (fun μ5 => bd (upI μ5 0 39 ((μ5.1 0 39) + 1)) (fun μ7 => some μ7)))))
def fX12_comesOut_b42 (rec : Mem → Option Mem) (x1 : Int32) (x2 : Int32) (μ : Mem) : Option Mem :=
  bd (upI μ 0 43 ((μ.1 0 43) - 1)) (fun μ4 => (if x2 = 8 then b1 (fX12_emit 2 0 μ4) (fun μ13 => rec μ13) else (if x2 = 9 then b1 (fX12_emit 3 0 μ4) (fun μ11 => rec μ11) else (if x2 = 10 then b1 (fX12_emit 4 0 μ4) (fun μ9 => rec μ9) else b1 (fX12_emit 5 0 μ4) (fun μ7 => rec μ7)))))
def fX12_comesOut_s0 (rec : Mem → Option Mem) (x1 : Int32) (μ : Mem) : Option Mem :=
  (if (μ.1 0 43) ≤ 0 then some μ else gd (ix ((μ.1 0 43) - 1) 64) (bd (μ.1 28 (((μ.1 0 43) - 1).toNatClampNeg)) (fun y2 => (if y2 = 6 then some μ else (if x1 = 0 then fX12_comesOut_b42 rec x1 y2 μ else (if y2 = 8 then some μ else (if y2 = 9 then some μ else fX12_comesOut_b42 rec x1 y2 μ)))))))
def fX12_comesOut_l0 (x1 : Int32) : Nat → Mem → Option Mem
  | 0, _ => none
  | n + 1, μ => fX12_comesOut_s0 (fX12_comesOut_l0 x1 n) x1 μ
def fX12_comesOut (x1 : Int32) (μ : Mem) : Option Mem :=
  fX12_comesOut_l0 x1 FU μ
def fX12_sumNow_s4 (rec : Int32 → Int32 → Option Int32) (x1 : Int32) (x2 : Int32) (x3 : Int32) (μ : Mem) : Option Int32 :=
  (if (x1 + 6) ≤ x3 then some x2 else gd (ix x3 39) (bd (x2 + (μ.1 31 x3.toNatClampNeg)) (fun y2 => rec y2 (x3 + 1))))
def fX12_sumNow_l4 (x1 : Int32) (μ : Mem) : Nat → Int32 → Int32 → Option Int32
  | 0, _, _ => none
  | n + 1, x2, x3 => fX12_sumNow_s4 (fX12_sumNow_l4 x1 μ n) x1 x2 x3 μ
def fX12_sumNow (x1 : Int32) (μ : Mem) : Option Int32 :=
  fX12_sumNow_l4 x1 μ FU 0 x1
def fX12_noneBits_s4 (rec : Int32 → Int32 → Option Int32) (x1 : Int32) (x2 : Int32) (x3 : Int32) (μ : Mem) : Option Int32 :=
  b1 (fX12_many μ) (fun r2 => (if r2 ≤ x3 then some x2 else gd (ix (x1 + x3) 39) ((if (μ.1 31 ((x1 + x3).toNatClampNeg)) = 0 then bd (x2 ||| ((1 : Int32) <<< (x3 &&& 31))) (fun y4 => rec y4 (x3 + 1)) else rec x2 (x3 + 1)))))
def fX12_noneBits_l4 (x1 : Int32) (μ : Mem) : Nat → Int32 → Int32 → Option Int32
  | 0, _, _ => none
  | n + 1, x2, x3 => fX12_noneBits_s4 (fX12_noneBits_l4 x1 μ n) x1 x2 x3 μ
def fX12_noneBits (x1 : Int32) (μ : Mem) : Option Int32 :=
  fX12_noneBits_l4 x1 μ FU 0 0
def fX12_count_b209 (k0 : Int32) (k1 : Int32) (μ : Mem) : Option (Int32 × Mem) :=
  (if (μ.1 47 2) = 0 then some ((k0 + k1) + 0, μ) else some ((k0 + k1) + 1, μ))
def fX12_count_b195 (k0 : Int32) (μ : Mem) : Option (Int32 × Mem) :=
  (if (μ.1 47 1) = 0 then fX12_count_b209 k0 0 μ else fX12_count_b209 k0 1 μ)
def fX12_count_s241 (rec : Int32 → Int32 → Mem → Option (Int32 × Mem)) (x2 : Int32) (x3 : Int32) (μ : Mem) : Option (Int32 × Mem) :=
  b1 (fX12_many μ) (fun r33 => (if r33 ≤ x3 then some (x2, μ) else b2 (fX12_fadesOf x3 μ) (fun r36 μ35 => bd (x2 + r36) (fun y37 => rec y37 (x3 + 1) μ35))))
def fX12_count_l241 : Nat → Int32 → Int32 → Mem → Option (Int32 × Mem)
  | 0, _, _, _ => none
  | n + 1, x2, x3, μ => fX12_count_s241 (fX12_count_l241 n) x2 x3 μ
def fX12_count_s275 (rec : Int32 → Int32 → Option (Int32 × Mem)) (x2 : Int32) (x3 : Int32) (μ : Mem) : Option (Int32 × Mem) :=
  b1 (fX12_many μ) (fun r42 => (if r42 ≤ x3 then some (x2, μ) else b1 (fX12_panesAt x3 μ) (fun r44 => bd (x2 + r44) (fun y45 => rec y45 (x3 + 1)))))
def fX12_count_l275 (μ : Mem) : Nat → Int32 → Int32 → Option (Int32 × Mem)
  | 0, _, _ => none
  | n + 1, x2, x3 => fX12_count_s275 (fX12_count_l275 μ n) x2 x3 μ
def fX12_count (x1 : Int32) (μ : Mem) : Option (Int32 × Mem) :=
  b1 (fX12_copies μ) (fun μ2 => (if x1 = 0 then b1 (fX12_many μ2) (fun r4 => some (r4, μ2)) else if x1 = 1 then some (μ2.1 32 36, μ2) else if x1 = 2 then some (μ2.1 32 37, μ2) else if x1 = 3 then b1 (fX12_sumNow 12 μ2) (fun r9 => some (r9, μ2)) else if x1 = 4 then b1 (fX12_sumNow 6 μ2) (fun r12 => some (r12, μ2)) else if x1 = 5 then b1 (fX12_sumNow 0 μ2) (fun r15 => some (r15, μ2)) else if x1 = 6 then b1 (fX12_many μ2) (fun r18 => b1 (fX12_noneBits 18 μ2) (fun r20 => some ((((1 : Int32) <<< (r18 &&& 31)) - 1) &&& (r20 ^^^ (-1)), μ2))) else if x1 = 7 then b1 (fX12_noneBits 12 μ2) (fun r23 => some (r23, μ2)) else if x1 = 8 then some (μ2.1 0 2, μ2) else if x1 = 9 then some (μ2.1 0 53, μ2) else if x1 = 10 then some (μ2.1 0 63, μ2) else if x1 = 11 then (if (μ2.1 47 0) = 0 then fX12_count_b195 0 μ2 else fX12_count_b195 1 μ2) else if x1 = 12 then b1 (fX12_isHail μ2) (fun r30 => (if r30 = 0 then some (0, μ2) else some (1, μ2))) else if x1 = 13 then fX12_count_l241 FU 0 0 μ2 else if x1 = 14 then some (μ2.1 32 38, μ2) else if x1 = 15 then fX12_count_l275 μ2 FU 0 0 else if x1 = 16 then b1 (fX12_sumNow 24 μ2) (fun r49 => some (r49, μ2)) else if x1 = 17 then b1 (fX12_noneBits 6 μ2) (fun r52 => some (r52, μ2)) else if x1 = 18 then gd (ix (μ2.1 0 18) 2) (some (μ2.1 16 ((μ2.1 0 18).toNatClampNeg), μ2)) else if x1 = 19 then b1 (fX12_sumNow 30 μ2) (fun r57 => some (r57, μ2)) else some ((-1), μ2)))
def fX12_cut (x1 : Int32) (x2 : Int32) (μ : Mem) : Option (Int32 × Mem) :=
  b1 (fX12_isHouse x1 μ) (fun r2 => (if r2 = 0 then some ((-1), μ) else b1 (fX12_isHouse x2 μ) (fun r4 => (if r4 = 0 then some ((-1), μ) else (if x1 = x2 then some ((-1), μ) else b1 (fX12_copies μ) (fun μ6 => gd (ix (12 + x1) 39) (bd ((μ6.1 32 ((12 + x1).toNatClampNeg)) / 10) (fun y8 => gd (ix (12 + x1) 39) (gd (ix (12 + x1) 39) (bd (upI μ6 32 ((12 + x1).toNatClampNeg) ((μ6.1 32 ((12 + x1).toNatClampNeg)) - y8)) (fun μ12 => gd (ix (12 + x2) 39) (b1 (fX12_within ((μ12.1 32 ((12 + x2).toNatClampNeg)) + y8) 0 999) (fun r16 => gd (ix (12 + x2) 39) (bd (upI μ12 32 ((12 + x2).toNatClampNeg) r16) (fun μ18 => gd (ix (24 + x2) 39) (gd (ix (24 + x2) 39) (bd (upI μ18 32 ((24 + x2).toNatClampNeg) ((μ18.1 32 ((24 + x2).toNatClampNeg)) + 1)) (fun μ22 => b1 (fX12_records μ22) (fun μ25 => some (y8, μ25))))))))))))))))))))
def fX12_token (x1 : Int32) (x2 : Int32) (x3 : Int32) (x4 : Int64) (μ : Mem) : Option Mem :=
  gd (ix (μ.1 0 10) 403) (bd (upI μ 3 ((μ.1 0 10).toNatClampNeg) x1) (fun μ2 => gd (ix (μ2.1 0 10) 403) (bd (upI μ2 4 ((μ2.1 0 10).toNatClampNeg) x2) (fun μ5 => gd (ix (μ5.1 0 10) 403) (bd (upI μ5 5 ((μ5.1 0 10).toNatClampNeg) x3) (fun μ8 => gd (ix (μ8.1 0 10) 403) (bd (upL μ8 6 ((μ8.1 0 10).toNatClampNeg) x4) (fun μ11 => bd (upI μ11 0 10 ((μ11.1 0 10) + 1)) (fun μ13 => some μ13)))))))))
def fX12_isLetter (x0 : Int32) : Option Int32 :=
  (if x0 < 97 then some 0 else (if 122 < x0 then some 0 else some 1))
def fX12_isDigit (x0 : Int32) : Option Int32 :=
  (if x0 < 48 then some 0 else (if 57 < x0 then some 0 else some 1))
def fX12_sign_b95 (x1 : Int32) (x4 : Int32) (μ : Mem) : Option (Int32 × Mem) :=
  b1 (fX12_token x4 x1 0 0 μ) (fun μ2 => some (1, μ2))
def fX12_sign_b85 (x1 : Int32) (x2 : Int32) (x4 : Int32) (μ : Mem) : Option (Int32 × Mem) :=
  (if x2 = 60 then fX12_sign_b95 x1 13 μ else fX12_sign_b95 x1 x4 μ)
def fX12_sign_b75 (x1 : Int32) (x2 : Int32) (x4 : Int32) (μ : Mem) : Option (Int32 × Mem) :=
  (if x2 = 47 then fX12_sign_b85 x1 x2 15 μ else fX12_sign_b85 x1 x2 x4 μ)
def fX12_sign_b65 (x1 : Int32) (x2 : Int32) (x4 : Int32) (μ : Mem) : Option (Int32 × Mem) :=
  (if x2 = 42 then fX12_sign_b75 x1 x2 10 μ else fX12_sign_b75 x1 x2 x4 μ)
def fX12_sign_b55 (x1 : Int32) (x2 : Int32) (x4 : Int32) (μ : Mem) : Option (Int32 × Mem) :=
  (if x2 = 45 then fX12_sign_b65 x1 x2 9 μ else fX12_sign_b65 x1 x2 x4 μ)
def fX12_sign_b43 (x1 : Int32) (x2 : Int32) (k0 : Int32) (μ : Mem) : Option (Int32 × Mem) :=
  (if x2 = 43 then fX12_sign_b55 x1 x2 8 μ else fX12_sign_b55 x1 x2 k0 μ)
def fX12_sign (x1 : Int32) (x2 : Int32) (x3 : Int32) (μ : Mem) : Option (Int32 × Mem) :=
  (if x2 = 59 then fX12_sign_b43 x1 x2 4 μ else (if x2 = 61 then fX12_sign_b43 x1 x2 5 μ else (if x2 = 40 then fX12_sign_b43 x1 x2 6 μ else (if x2 = 41 then fX12_sign_b43 x1 x2 7 μ else fX12_sign_b43 x1 x2 3 μ))))
def fX12_cutsUp_s208 (rec : Int32 → Int32 → Option Mem) (K : Int32 → Int32 → Option Mem) (x1 : Int32) (x3 : Int32) (x4 : Int32) (μ : Mem) : Option Mem :=
  b1 (fX12_byteAt (x1 + x3) μ) (fun r17 => b1 (fX12_isDigit r17) (fun r19 => (if r19 = 0 then K x3 x4 else (if 4 ≤ x3 then rec (x3 + 1) x4 else b1 (fX12_byteAt (x1 + x3) μ) (fun r21 => bd (((10 * x4) + r21) - 48) (fun y22 => rec (x3 + 1) y22))))))
def fX12_cutsUp_l208 (K : Int32 → Int32 → Option Mem) (x1 : Int32) (μ : Mem) : Nat → Int32 → Int32 → Option Mem
  | 0, _, _ => none
  | n + 1, x3, x4 => fX12_cutsUp_s208 (fX12_cutsUp_l208 K x1 μ n) K x1 x3 x4 μ
def fX12_cutsUp_b261 (rec : Int32 → Mem → Option Mem) (x1 : Int32) (x3 : Int32) (x4 : Int32) (k1 : Int32) (μ : Mem) : Option Mem :=
  b1 (fX12_token k1 x1 x4 0 μ) (fun μ27 => bd (x1 + x3) (fun y28 => rec y28 μ27))
def fX12_cutsUp_s85 (rec : Int32 → Int64 → Option Mem) (K : Int32 → Int64 → Option Mem) (x1 : Int32) (x3 : Int32) (x4 : Int64) (μ : Mem) : Option Mem :=
  b1 (fX12_byteAt (x1 + x3) μ) (fun r31 => b1 (fX12_isLetter r31) (fun r33 => (if r33 = 0 then K x3 x4 else (if 8 ≤ x3 then rec (x3 + 1) x4 else b1 (fX12_byteAt (x1 + x3) μ) (fun r35 => b1 (fX12_appends x4 r35) (fun r37 => rec (x3 + 1) r37))))))
def fX12_cutsUp_l85 (K : Int32 → Int64 → Option Mem) (x1 : Int32) (μ : Mem) : Nat → Int32 → Int64 → Option Mem
  | 0, _, _ => none
  | n + 1, x3, x4 => fX12_cutsUp_s85 (fX12_cutsUp_l85 K x1 μ n) K x1 x3 x4 μ
def fX12_cutsUp_b179 (rec : Int32 → Mem → Option Mem) (x1 : Int32) (x3 : Int32) (x4 : Int64) (x6 : Int32) (μ : Mem) : Option Mem :=
  b1 (fX12_token x6 x1 0 x4 μ) (fun μ41 => bd (x1 + x3) (fun y42 => rec y42 μ41))
def fX12_cutsUp_s146 (rec : Int32 → Int32 → Option Mem) (K : Int32 → Option Mem) (x4 : Int64) (x6 : Int32) (x7 : Int32) (μ : Mem) : Option Mem :=
  (if 21 ≤ x7 then K x6 else gd (ix x7 21) ((if (lg_cmp (μ.2 7 x7.toNatClampNeg) x4) = 0 then bd (20 + x7) (fun y45 => rec y45 (x7 + 1)) else rec x6 (x7 + 1))))
def fX12_cutsUp_l146 (K : Int32 → Option Mem) (x4 : Int64) (μ : Mem) : Nat → Int32 → Int32 → Option Mem
  | 0, _, _ => none
  | n + 1, x6, x7 => fX12_cutsUp_s146 (fX12_cutsUp_l146 K x4 μ n) K x4 x6 x7 μ
def fX12_cutsUp_b135 (rec : Int32 → Mem → Option Mem) (x1 : Int32) (x3 : Int32) (x4 : Int64) (k0 : Int32) (μ : Mem) : Option Mem :=
  (if 8 < x3 then fX12_cutsUp_b179 rec x1 x3 x4 k0 μ else fX12_cutsUp_l146 (fun y47 => fX12_cutsUp_b179 rec x1 x3 x4 y47 μ) x4 μ FU k0 0)
def fX12_cutsUp_s7 (rec : Int32 → Mem → Option Mem) (x1 : Int32) (μ : Mem) : Option Mem :=
  (if 400 < (μ.1 0 10) then some μ else b1 (fX12_byteAt x1 μ) (fun r4 => (if x1 < (μ.1 0 4) then (if r4 = 9 then rec (x1 + 1) μ else (if r4 = 10 then rec (x1 + 1) μ else (if r4 = 13 then rec (x1 + 1) μ else (if r4 = 32 then rec (x1 + 1) μ else b1 (fX12_isLetter r4) (fun r6 => (if r6 = 0 then b1 (fX12_isDigit r4) (fun r8 => (if r8 = 0 then b1 (fX12_byteAt (x1 + 1) μ) (fun r10 => b2 (fX12_sign x1 r4 r10 μ) (fun r13 μ12 => bd (x1 + r13) (fun y14 => rec y14 μ12))) else fX12_cutsUp_l208 (fun y24 y25 => (if y24 ≤ 4 then fX12_cutsUp_b261 rec x1 y24 y25 2 μ else fX12_cutsUp_b261 rec x1 y24 y25 3 μ)) x1 μ FU 0 0)) else fX12_cutsUp_l85 (fun y38 y39 => (if y38 ≤ 8 then fX12_cutsUp_b135 rec x1 y38 y39 1 μ else fX12_cutsUp_b135 rec x1 y38 y39 3 μ)) x1 μ FU 0 0)))))) else b1 (fX12_token 0 (μ.1 0 4) 0 0 μ) (fun μ49 => some μ49))))
def fX12_cutsUp_l7 : Nat → Int32 → Mem → Option Mem
  | 0, _, _ => none
  | n + 1, x1, μ => fX12_cutsUp_s7 (fX12_cutsUp_l7 n) x1 μ
def fX12_cutsUp (μ : Mem) : Option Mem :=
  bd (upI μ 0 10 0) (fun μ1 => fX12_cutsUp_l7 FU 0 μ1)
def fX12_isLong (x0 : Int32) : Option Int32 :=
  b1 (fX12_in x0 0 60) (fun r2 => some (r2 &&& 1))
def fX12_goes_s2 (rec : Int32 → Mem → Option Mem) (x1 : Int32) (x2 : Int32) (μ : Mem) : Option Mem :=
  (if x1 ≤ x2 then some μ else b1 (fX12_dayGoes μ) (fun μ2 => rec (x2 + 1) μ2))
def fX12_goes_l2 (x1 : Int32) : Nat → Int32 → Mem → Option Mem
  | 0, _, _ => none
  | n + 1, x2, μ => fX12_goes_s2 (fX12_goes_l2 x1 n) x1 x2 μ
def fX12_goes (x1 : Int32) (μ : Mem) : Option Mem :=
  fX12_goes_l2 x1 FU 0 μ
def fX12_days (x1 : Int32) (μ : Mem) : Option (Int32 × Mem) :=
  b1 (fX12_isLong x1) (fun r2 => (if r2 = 0 then some ((-1), μ) else (if x1 = 0 then some (μ.1 31 36, μ) else b1 (fX12_copies μ) (fun μ4 => b1 (fX12_goes x1 μ4) (fun μ6 => b1 (fX12_records μ6) (fun μ8 => some (μ8.1 31 36, μ8)))))))
def fX12_door_b26 (x1 : Int32) (x2 : Int32) (k0 : Int32) (μ : Mem) : Option (Int32 × Mem) :=
  (if k0 = x2 then some (0, μ) else b1 (fX12_copies μ) (fun μ5 => (if x2 = 0 then gd (ix (18 + x1) 39) (bd (upI μ5 32 ((18 + x1).toNatClampNeg) 0) (fun μ7 => b1 (fX12_records μ7) (fun μ10 => some (1, μ10)))) else gd (ix (18 + x1) 39) (bd (upI μ5 32 ((18 + x1).toNatClampNeg) 1) (fun μ12 => b1 (fX12_records μ12) (fun μ15 => some (1, μ15)))))))
def fX12_door (x1 : Int32) (x2 : Int32) (μ : Mem) : Option (Int32 × Mem) :=
  b1 (fX12_isHouse x1 μ) (fun r2 => (if r2 = 0 then some (0, μ) else gd (ix (18 + x1) 39) ((if (μ.1 31 ((18 + x1).toNatClampNeg)) = 1 then fX12_door_b26 x1 x2 1 μ else fX12_door_b26 x1 x2 0 μ))))
def fX12_draughty_s20 (rec : Int32 → Int32 → Mem → Option (Int32 × Mem)) (K : Int32 → Mem → Option (Int32 × Mem)) (x2 : Int32) (x3 : Int32) (μ : Mem) : Option (Int32 × Mem) :=
  b1 (fX12_many μ) (fun r6 => (if r6 ≤ x3 then K x2 μ else (if x2 < 0 then rec x3 (x3 + 1) μ else b2 (fX12_chillOf x3 μ) (fun r9 μ8 => b2 (fX12_chillOf x2 μ8) (fun r12 μ11 => (if r9 ≤ r12 then rec x2 (x3 + 1) μ11 else rec x3 (x3 + 1) μ11))))))
def fX12_draughty_l20 (K : Int32 → Mem → Option (Int32 × Mem)) : Nat → Int32 → Int32 → Mem → Option (Int32 × Mem)
  | 0, _, _, _ => none
  | n + 1, x2, x3, μ => fX12_draughty_s20 (fX12_draughty_l20 K n) K x2 x3 μ
def fX12_draughty (x1 : Int32) (μ : Mem) : Option (Int32 × Mem) :=
  b1 (fX12_in x1 0 1) (fun r2 => (if r2 = 0 then some ((-1), μ) else b1 (fX12_copies μ) (fun μ4 => fX12_draughty_l20 (fun y13 μ14 => (if y13 < 0 then some (y13, μ14) else (if x1 = 0 then some (y13, μ14) else b2 (fX12_chillOf y13 μ14) (fun r17 μ16 => some (r17, μ16))))) FU (-2) 0 μ4)))
def fX12_needsOf_s2 (rec : Int32 → Option Int32) (x1 : Int32) (x2 : Int32) (μ : Mem) : Option Int32 :=
  (if 31 ≤ x2 then some 31 else gd (ix ((31 * x1) + x2) 186) ((if (μ.1 36 (((31 * x1) + x2).toNatClampNeg)) = 0 then some x2 else rec (x2 + 1))))
def fX12_needsOf_l2 (x1 : Int32) (μ : Mem) : Nat → Int32 → Option Int32
  | 0, _ => none
  | n + 1, x2 => fX12_needsOf_s2 (fX12_needsOf_l2 x1 μ n) x1 x2 μ
def fX12_needsOf (x1 : Int32) (μ : Mem) : Option Int32 :=
  fX12_needsOf_l2 x1 μ FU 0
def fX12_enough_s14 (rec : Int32 → Int32 → Option (Int32 × Mem)) (x1 : Int32) (x2 : Int32) (μ : Mem) : Option (Int32 × Mem) :=
  b1 (fX12_many μ) (fun r6 => (if r6 ≤ x2 then some (x1, μ) else b1 (fX12_needsOf x2 μ) (fun r8 => (if r8 ≤ 30 then b1 (fX12_needsOf x2 μ) (fun r10 => bd (x1 + r10) (fun y11 => rec y11 (x2 + 1))) else some ((-2), μ)))))
def fX12_enough_l14 (μ : Mem) : Nat → Int32 → Int32 → Option (Int32 × Mem)
  | 0, _, _ => none
  | n + 1, x1, x2 => fX12_enough_s14 (fX12_enough_l14 μ n) x1 x2 μ
def fX12_enough (μ : Mem) : Option (Int32 × Mem) :=
  b1 (fX12_copies μ) (fun μ2 => b1 (fX12_fillsLoss 30 μ2) (fun μ4 => fX12_enough_l14 μ4 FU 0 0))
def fX12_unit (μ : Mem) : Option Mem :=
  b1 (fX12_is 2 μ) (fun r2 => (if r2 = 0 then (if (μ.1 0 13) = 0 then gd (ix (μ.1 0 11) 403) ((if (μ.1 3 ((μ.1 0 11).toNatClampNeg)) < 32 then b1 (fX12_fail 1 μ) (fun μ7 => some μ7) else gd (ix (μ.1 0 11) 403) ((if 40 < (μ.1 3 ((μ.1 0 11).toNatClampNeg)) then b1 (fX12_fail 1 μ) (fun μ10 => some μ10) else gd (ix (μ.1 0 11) 403) (b1 (fX12_emit 1 ((μ.1 3 ((μ.1 0 11).toNatClampNeg)) - 32) μ) (fun μ13 => b1 (fX12_goesOn μ13) (fun μ15 => some μ15))))))) else b1 (fX12_fail 1 μ) (fun μ4 => some μ4)) else gd (ix (μ.1 0 11) 403) (b1 (fX12_emit 0 (μ.1 5 ((μ.1 0 11).toNatClampNeg)) μ) (fun μ18 => b1 (fX12_goesOn μ18) (fun μ20 => some μ20)))))
def fX12_expression_b46 (rec : Mem → Option Mem) (K : Mem → Option Mem) (μ : Mem) : Option Mem :=
  bd (upI μ 0 12 ((μ.1 0 12) + 1)) (fun μ7 => b1 (fX12_goesOn μ7) (fun μ10 => gd (ix (μ10.1 0 43) 64) (bd (upI μ10 28 ((μ10.1 0 43).toNatClampNeg) 6) (fun μ12 => bd (upI μ12 0 43 ((μ12.1 0 43) + 1)) (fun μ14 => rec μ14)))))
def fX12_expression_s23 (rec : Mem → Option Mem) (K : Mem → Option Mem) (μ : Mem) : Option Mem :=
  b1 (fX12_is 6 μ) (fun r6 => (if r6 = 0 then K μ else (if (μ.1 0 12) = 6 then b1 (fX12_fail 2 μ) (fun μ17 => fX12_expression_b46 rec K μ17) else fX12_expression_b46 rec K μ)))
def fX12_expression_l23 (K : Mem → Option Mem) : Nat → Mem → Option Mem
  | 0, _ => none
  | n + 1, μ => fX12_expression_s23 (fX12_expression_l23 K n) K μ
def fX12_expression_s96 (rec : Mem → Option Mem) (K : Mem → Option Mem) (x1 : Int32) (μ : Mem) : Option Mem :=
  b1 (fX12_is 7 μ) (fun r22 => (if r22 = 0 then K μ else (if (μ.1 0 12) ≤ x1 then K μ else b1 (fX12_comesOut 0 μ) (fun μ24 => bd (upI μ24 0 43 ((μ24.1 0 43) - 1)) (fun μ25 => bd (upI μ25 0 12 ((μ25.1 0 12) - 1)) (fun μ27 => b1 (fX12_goesOn μ27) (fun μ30 => rec μ30)))))))
def fX12_expression_l96 (K : Mem → Option Mem) (x1 : Int32) : Nat → Mem → Option Mem
  | 0, _ => none
  | n + 1, μ => fX12_expression_s96 (fX12_expression_l96 K x1 n) K x1 μ
def fX12_expression_b234 (rec : Int32 → Mem → Option Mem) (K : Mem → Option Mem) (x1 : Int32) (x2 : Int32) (k1 : Int32) (μ : Mem) : Option Mem :=
  b1 (fX12_comesOut k1 μ) (fun μ37 => gd (ix (μ37.1 0 11) 403) (gd (ix (μ37.1 0 43) 64) (bd (upI μ37 28 ((μ37.1 0 43).toNatClampNeg) (μ37.1 3 ((μ37.1 0 11).toNatClampNeg))) (fun μ40 => bd (upI μ40 0 43 ((μ40.1 0 43) + 1)) (fun μ42 => b1 (fX12_goesOn μ42) (fun μ45 => rec x2 μ45))))))
def fX12_expression_b229 (rec : Int32 → Mem → Option Mem) (K : Mem → Option Mem) (x1 : Int32) (x2 : Int32) (μ : Mem) : Option Mem :=
  fX12_expression_b234 rec K x1 x2 1 μ
def fX12_expression_b186 (rec : Int32 → Mem → Option Mem) (K : Mem → Option Mem) (x1 : Int32) (k0 : Int32) (μ : Mem) : Option Mem :=
  (if k0 = 0 then K μ else b1 (fX12_is 10 μ) (fun r35 => (if r35 = 0 then b1 (fX12_is 15 μ) (fun r47 => (if r47 = 0 then fX12_expression_b234 rec K x1 k0 0 μ else fX12_expression_b229 rec K x1 k0 μ)) else fX12_expression_b229 rec K x1 k0 μ)))
def fX12_expression_b181 (rec : Int32 → Mem → Option Mem) (K : Mem → Option Mem) (x1 : Int32) (μ : Mem) : Option Mem :=
  fX12_expression_b186 rec K x1 1 μ
def fX12_expression_b145 (rec : Int32 → Mem → Option Mem) (K : Mem → Option Mem) (x1 : Int32) (μ : Mem) : Option Mem :=
  b1 (fX12_is 8 μ) (fun r33 => (if r33 = 0 then b1 (fX12_is 9 μ) (fun r49 => (if r49 = 0 then b1 (fX12_is 10 μ) (fun r51 => (if r51 = 0 then b1 (fX12_is 15 μ) (fun r53 => (if r53 = 0 then fX12_expression_b186 rec K x1 0 μ else fX12_expression_b181 rec K x1 μ)) else fX12_expression_b181 rec K x1 μ)) else fX12_expression_b181 rec K x1 μ)) else fX12_expression_b181 rec K x1 μ))
def fX12_expression_s12 (rec : Int32 → Mem → Option Mem) (K : Mem → Option Mem) (x1 : Int32) (x2 : Int32) (μ : Mem) : Option Mem :=
  (if x2 = 0 then some μ else (if (μ.1 0 13) = 0 then fX12_expression_l23 (fun μ18 => b1 (fX12_unit μ18) (fun μ20 => (if (μ20.1 0 13) ≤ 0 then fX12_expression_l96 (fun μ31 => fX12_expression_b145 rec K x1 μ31) x1 FU μ20 else some μ20))) FU μ else some μ))
def fX12_expression_l12 (K : Mem → Option Mem) (x1 : Int32) : Nat → Int32 → Mem → Option Mem
  | 0, _, _ => none
  | n + 1, x2, μ => fX12_expression_s12 (fX12_expression_l12 K x1 n) K x1 x2 μ
def fX12_expression (μ : Mem) : Option Mem :=
  bd (upI μ 0 43 0) (fun μ1 => bd (μ1.1 0 12) (fun y3 => fX12_expression_l12 (fun μ54 => (if (μ54.1 0 12) ≤ y3 then b1 (fX12_comesOut 0 μ54) (fun μ56 => some μ56) else b1 (fX12_fail 1 μ54) (fun μ58 => b1 (fX12_comesOut 0 μ58) (fun μ60 => some μ60)))) y3 FU 1 μ1))
def fX12_off (x0 : Int32) (x1 : Int32) : Option Int32 :=
  (if x1 ≤ x0 then some (x0 - x1) else some (x1 - x0))
def fX12_farOf (x1 : Int32) (x2 : Int32) (μ : Mem) : Option Int32 :=
  gd (ix ((6 * (μ.1 0 18)) + x1) 12) (gd (ix ((6 * (μ.1 0 18)) + x2) 12) (b1 (fX12_off (μ.1 13 (((6 * (μ.1 0 18)) + x1).toNatClampNeg)) (μ.1 13 (((6 * (μ.1 0 18)) + x2).toNatClampNeg))) (fun r4 => gd (ix ((6 * (μ.1 0 18)) + x1) 12) (gd (ix ((6 * (μ.1 0 18)) + x2) 12) (b1 (fX12_off (μ.1 14 (((6 * (μ.1 0 18)) + x1).toNatClampNeg)) (μ.1 14 (((6 * (μ.1 0 18)) + x2).toNatClampNeg))) (fun r8 => some (r4 + r8)))))))
def fX12_far (x1 : Int32) (x2 : Int32) (μ : Mem) : Option Int32 :=
  b1 (fX12_isHouse x1 μ) (fun r2 => (if r2 = 0 then some (-1) else b1 (fX12_isHouse x2 μ) (fun r4 => (if r4 = 0 then some (-1) else b1 (fX12_farOf x1 x2 μ) (fun r6 => some r6)))))
def fX12_put_s3 (rec : Int32 → Mem → Option Mem) (x1 : Int32) (x2 : Int32) (μ : Mem) : Option Mem :=
  (if x2 < 0 then some μ else gd (ix (μ.1 0 2) 2000) (bd (upI μ 1 ((μ.1 0 2).toNatClampNeg) (((x1 >>> (x2 &&& 31)).toInt8.toInt32).toInt8.toInt32)) (fun μ2 => bd (upI μ2 0 2 ((μ2.1 0 2) + 1)) (fun μ4 => rec (x2 + (-8)) μ4))))
def fX12_put_l3 (x1 : Int32) : Nat → Int32 → Mem → Option Mem
  | 0, _, _ => none
  | n + 1, x2, μ => fX12_put_s3 (fX12_put_l3 x1 n) x1 x2 μ
def fX12_put (x1 : Int32) (μ : Mem) : Option Mem :=
  fX12_put_l3 x1 FU 24 μ
def fX12_feed (x1 : Int32) (x2 : Int32) (x3 : Int32) (x4 : Int32) (x5 : Int32) (μ : Mem) : Option (Int32 × Mem) :=
  (if ((μ.1 0 2) + 20) ≤ 2000 then b1 (fX12_put x1 μ) (fun μ2 => b1 (fX12_put x2 μ2) (fun μ4 => b1 (fX12_put x3 μ4) (fun μ6 => b1 (fX12_put x4 μ6) (fun μ8 => b1 (fX12_put x5 μ8) (fun μ10 => some (μ10.1 0 2, μ10)))))) else some ((-1), μ))
def fX12_lowestOf_s2 (rec : Int32 → Option Int32) (x0 : Int32) (x1 : Int32) : Option Int32 :=
  (if ((x0 >>> (x1 &&& 31)) &&& 1) = 0 then rec (x1 + 1) else some x1)
def fX12_lowestOf_l2 (x0 : Int32) : Nat → Int32 → Option Int32
  | 0, _ => none
  | n + 1, x1 => fX12_lowestOf_s2 (fX12_lowestOf_l2 x0 n) x0 x1
def fX12_lowestOf (x0 : Int32) : Option Int32 :=
  fX12_lowestOf_l2 x0 FU 0
def fX12_unlike (x1 : Int32) (x2 : Int32) (μ : Mem) : Option Int32 :=
  gd (ix (12 + x1) 39) (gd (ix (12 + x2) 39) (b1 (fX12_off (μ.1 31 ((12 + x1).toNatClampNeg)) (μ.1 31 ((12 + x2).toNatClampNeg))) (fun r4 => some r4)))
def fX12_pairedWith (x1 : Int32) (x2 : Int32) (x3 : Int32) (μ : Mem) : Option Int32 :=
  b1 (fX12_unlike x1 x2 μ) (fun r2 => gd (ix (x3 &&& (((1 : Int32) <<< (x2 &&& 31)) ^^^ (-1))) 64) (some ((r2 - 10000) + (μ.1 43 ((x3 &&& (((1 : Int32) <<< (x2 &&& 31)) ^^^ (-1))).toNatClampNeg)))))
def fX12_fillsPaired_s49 (rec : Int32 → Mem → Option Mem) (K : Mem → Option Mem) (x1 : Int32) (x2 : Int32) (x3 : Int32) (x4 : Int32) (μ : Mem) : Option Mem :=
  b1 (fX12_many μ) (fun r16 => (if r16 ≤ x4 then K μ else (if ((x3 >>> (x4 &&& 31)) &&& 1) = 1 then b1 (fX12_pairedWith x2 x4 x3 μ) (fun r18 => gd (ix x1 64) ((if (μ.1 43 x1.toNatClampNeg) ≤ r18 then rec (x4 + 1) μ else b1 (fX12_pairedWith x2 x4 x3 μ) (fun r21 => gd (ix x1 64) (bd (upI μ 43 x1.toNatClampNeg r21) (fun μ23 => rec (x4 + 1) μ23)))))) else rec (x4 + 1) μ)))
def fX12_fillsPaired_l49 (K : Mem → Option Mem) (x1 : Int32) (x2 : Int32) (x3 : Int32) : Nat → Int32 → Mem → Option Mem
  | 0, _, _ => none
  | n + 1, x4, μ => fX12_fillsPaired_s49 (fX12_fillsPaired_l49 K x1 x2 x3 n) K x1 x2 x3 x4 μ
def fX12_fillsPaired_s9 (rec : Int32 → Mem → Option Mem) (x1 : Int32) (μ : Mem) : Option Mem :=
  b1 (fX12_many μ) (fun r4 => (if ((1 : Int32) <<< (r4 &&& 31)) ≤ x1 then some μ else b1 (fX12_lowestOf x1) (fun r6 => bd (x1 &&& (((1 : Int32) <<< (r6 &&& 31)) ^^^ (-1))) (fun y7 => gd (ix y7 64) (gd (ix x1 64) (bd (upI μ 43 x1.toNatClampNeg (μ.1 43 y7.toNatClampNeg)) (fun μ11 => bd (r6 + 1) (fun y13 => fX12_fillsPaired_l49 (fun μ25 => rec (x1 + 1) μ25) x1 r6 y7 FU y13 μ11))))))))
def fX12_fillsPaired_l9 : Nat → Int32 → Mem → Option Mem
  | 0, _, _ => none
  | n + 1, x1, μ => fX12_fillsPaired_s9 (fX12_fillsPaired_l9 n) x1 μ
def fX12_fillsPaired (μ : Mem) : Option Mem :=
  bd (upI μ 43 0 0) (fun μ1 => fX12_fillsPaired_l9 FU 1 μ1)
def fX12_restWith (x1 : Int32) (x2 : Int32) (x3 : Int32) (μ : Mem) : Option Int32 :=
  b1 (fX12_farOf x2 x3 μ) (fun r2 => gd (ix ((6 * (x1 ||| ((1 : Int32) <<< (x3 &&& 31)))) + x3) 384) (some (r2 + (μ.1 39 (((6 * (x1 ||| ((1 : Int32) <<< (x3 &&& 31)))) + x3).toNatClampNeg)))))
def fX12_fillsRest_s46 (rec : Int32 → Int32 → Option Mem) (K : Int32 → Option Mem) (x1 : Int32) (x2 : Int32) (x3 : Int32) (x4 : Int32) (μ : Mem) : Option Mem :=
  b1 (fX12_many μ) (fun r10 => (if r10 ≤ x4 then K x3 else (if ((x1 >>> (x4 &&& 31)) &&& 1) = 0 then b1 (fX12_restWith x1 x2 x4 μ) (fun r12 => (if x3 ≤ r12 then rec x3 (x4 + 1) else b1 (fX12_restWith x1 x2 x4 μ) (fun r14 => rec r14 (x4 + 1)))) else rec x3 (x4 + 1))))
def fX12_fillsRest_l46 (K : Int32 → Option Mem) (x1 : Int32) (x2 : Int32) (μ : Mem) : Nat → Int32 → Int32 → Option Mem
  | 0, _, _ => none
  | n + 1, x3, x4 => fX12_fillsRest_s46 (fX12_fillsRest_l46 K x1 x2 μ n) K x1 x2 x3 x4 μ
def fX12_fillsRest_b42 (rec : Int32 → Mem → Option Mem) (K : Mem → Option Mem) (x1 : Int32) (x2 : Int32) (k0 : Int32) (μ : Mem) : Option Mem :=
  fX12_fillsRest_l46 (fun y15 => gd (ix ((6 * x1) + x2) 384) (bd (upI μ 39 (((6 * x1) + x2).toNatClampNeg) y15) (fun μ17 => rec (x2 + 1) μ17))) x1 x2 μ FU k0 0
def fX12_fillsRest_s15 (rec : Int32 → Mem → Option Mem) (K : Mem → Option Mem) (x1 : Int32) (x2 : Int32) (μ : Mem) : Option Mem :=
  b1 (fX12_many μ) (fun r6 => (if r6 ≤ x2 then K μ else b1 (fX12_many μ) (fun r8 => (if x1 = (((1 : Int32) <<< (r8 &&& 31)) - 1) then fX12_fillsRest_b42 rec K x1 x2 0 μ else fX12_fillsRest_b42 rec K x1 x2 10000 μ))))
def fX12_fillsRest_l15 (K : Mem → Option Mem) (x1 : Int32) : Nat → Int32 → Mem → Option Mem
  | 0, _, _ => none
  | n + 1, x2, μ => fX12_fillsRest_s15 (fX12_fillsRest_l15 K x1 n) K x1 x2 μ
def fX12_fillsRest_s9 (rec : Int32 → Mem → Option Mem) (x1 : Int32) (μ : Mem) : Option Mem :=
  (if x1 < 0 then some μ else fX12_fillsRest_l15 (fun μ19 => rec (x1 + (-1)) μ19) x1 FU 0 μ)
def fX12_fillsRest_l9 : Nat → Int32 → Mem → Option Mem
  | 0, _, _ => none
  | n + 1, x1, μ => fX12_fillsRest_s9 (fX12_fillsRest_l9 n) x1 μ
def fX12_fillsRest (μ : Mem) : Option Mem :=
  b1 (fX12_many μ) (fun r2 => bd (((1 : Int32) <<< (r2 &&& 31)) - 1) (fun y3 => fX12_fillsRest_l9 FU y3 μ))
def fX12_lossOf (x1 : Int32) (x2 : Int32) (μ : Mem) : Option (Int32 × Mem) :=
  b1 (fX12_copies μ) (fun μ2 => b1 (fX12_burns x1 x2 μ2) (fun μ4 => b2 (fX12_fadesOf x1 μ4) (fun r7 μ6 => some (r7, μ6))))
def fX12_savesOf (x1 : Int32) (μ : Mem) : Option (Int32 × Mem) :=
  b2 (fX12_lossOf x1 0 μ) (fun r3 μ2 => b2 (fX12_lossOf x1 1 μ2) (fun r6 μ5 => some (r3 - r6, μ5)))
def fX12_first_s5 (rec : Int32 → Int32 → Mem → Option (Int32 × Mem)) (x1 : Int32) (x2 : Int32) (μ : Mem) : Option (Int32 × Mem) :=
  b1 (fX12_many μ) (fun r2 => (if r2 ≤ x2 then some (x1, μ) else (if x1 < 0 then rec x2 (x2 + 1) μ else b2 (fX12_savesOf x2 μ) (fun r5 μ4 => b2 (fX12_savesOf x1 μ4) (fun r8 μ7 => (if r5 ≤ r8 then rec x1 (x2 + 1) μ7 else rec x2 (x2 + 1) μ7))))))
def fX12_first_l5 : Nat → Int32 → Int32 → Mem → Option (Int32 × Mem)
  | 0, _, _, _ => none
  | n + 1, x1, x2, μ => fX12_first_s5 (fX12_first_l5 n) x1 x2 μ
def fX12_first (μ : Mem) : Option (Int32 × Mem) :=
  fX12_first_l5 FU (-2) 0 μ
def fX12_forget (μ : Mem) : Option (Int32 × Mem) :=
  bd (μ.1 0 63) (fun y1 => bd (upI μ 0 63 0) (fun μ3 => some (y1, μ3)))
def fX12_gone (x1 : Int32) (μ : Mem) : Option (Int32 × Mem) :=
  b1 (fX12_isHouse x1 μ) (fun r2 => (if r2 = 0 then some ((-1), μ) else b2 (fX12_behindNone (12 + x1) μ) (fun r5 μ4 => some (r5, μ4))))
def fX12_hold_s20 (rec : Int32 → Mem → Option (Int32 × Mem)) (x1 : Int32) (x2 : Int32) (μ : Mem) : Option (Int32 × Mem) :=
  (if 39 ≤ x2 then some (1, μ) else gd (ix x2 39) (gd (ix ((39 * x1) + x2) 117) (bd (upI μ 48 (((39 * x1) + x2).toNatClampNeg) (μ.1 31 x2.toNatClampNeg)) (fun μ8 => rec (x2 + 1) μ8))))
def fX12_hold_l20 (x1 : Int32) : Nat → Int32 → Mem → Option (Int32 × Mem)
  | 0, _, _ => none
  | n + 1, x2, μ => fX12_hold_s20 (fX12_hold_l20 x1 n) x1 x2 μ
def fX12_hold (x1 : Int32) (μ : Mem) : Option (Int32 × Mem) :=
  b1 (fX12_in x1 0 2) (fun r2 => (if r2 = 0 then some (0, μ) else gd (ix x1 3) (bd (upI μ 47 x1.toNatClampNeg 1) (fun μ4 => fX12_hold_l20 x1 FU 0 μ4))))
def fX12_mendsOf (x1 : Int32) (μ : Mem) : Option (Int32 × Mem) :=
  b2 (fX12_lawOf x1 3 1 99 μ) (fun r3 μ2 => some (r3, μ2))
def fX12_house (x1 : Int32) (x2 : Int32) (μ : Mem) : Option (Int32 × Mem) :=
  b1 (fX12_isHouse x1 μ) (fun r2 => (if r2 = 0 then some ((-1), μ) else b1 (fX12_copies μ) (fun μ4 => (if x2 = 0 then b1 (fX12_panesAt x1 μ4) (fun r6 => some (r6, μ4)) else if x2 = 1 then gd (ix x1 39) (some (μ4.1 32 x1.toNatClampNeg, μ4)) else if x2 = 2 then gd (ix (6 + x1) 39) (some (μ4.1 32 ((6 + x1).toNatClampNeg), μ4)) else if x2 = 3 then gd (ix (12 + x1) 39) (some (μ4.1 32 ((12 + x1).toNatClampNeg), μ4)) else if x2 = 4 then gd (ix (18 + x1) 39) (some (μ4.1 32 ((18 + x1).toNatClampNeg), μ4)) else if x2 = 5 then gd (ix (24 + x1) 39) (some (μ4.1 32 ((24 + x1).toNatClampNeg), μ4)) else if x2 = 6 then gd (ix (30 + x1) 39) (some (μ4.1 32 ((30 + x1).toNatClampNeg), μ4)) else if x2 = 7 then b2 (fX12_coolsOf x1 μ4) (fun r22 μ21 => some (r22, μ21)) else if x2 = 8 then b2 (fX12_warmsOf x1 μ4) (fun r26 μ25 => some (r26, μ25)) else if x2 = 9 then b2 (fX12_fadesOf x1 μ4) (fun r30 μ29 => some (r30, μ29)) else if x2 = 10 then b2 (fX12_mendsOf x1 μ4) (fun r34 μ33 => some (r34, μ33)) else if x2 = 11 then gd (ix ((6 * (μ4.1 0 18)) + x1) 12) (some (μ4.1 13 (((6 * (μ4.1 0 18)) + x1).toNatClampNeg), μ4)) else if x2 = 12 then gd (ix ((6 * (μ4.1 0 18)) + x1) 12) (some (μ4.1 14 (((6 * (μ4.1 0 18)) + x1).toNatClampNeg), μ4)) else some ((-1), μ4)))))
def fX12_isSmall (x0 : Int32) : Option Int32 :=
  b1 (fX12_in x0 0 30) (fun r2 => some (r2 &&& 1))
def fX12_keptAll_s4 (rec : Int32 → Int32 → Option Int32) (x1 : Int32) (x2 : Int32) (μ : Mem) : Option Int32 :=
  b1 (fX12_many μ) (fun r2 => (if r2 ≤ x2 then some x1 else gd (ix (12 + x2) 39) (bd (x1 + (μ.1 32 ((12 + x2).toNatClampNeg))) (fun y4 => rec y4 (x2 + 1)))))
def fX12_keptAll_l4 (μ : Mem) : Nat → Int32 → Int32 → Option Int32
  | 0, _, _ => none
  | n + 1, x1, x2 => fX12_keptAll_s4 (fX12_keptAll_l4 μ n) x1 x2 μ
def fX12_keptAll (μ : Mem) : Option Int32 :=
  fX12_keptAll_l4 μ FU 0 0
def fX12_needsNow_s23 (rec : Int32 → Mem → Option (Int32 × Mem)) (K : Int32 → Mem → Option (Int32 × Mem)) (x1 : Int32) (x4 : Int32) (μ : Mem) : Option (Int32 × Mem) :=
  (if 31 ≤ x4 then K x4 μ else b2 (fX12_fadesOf x1 μ) (fun r9 μ8 => (if r9 = 0 then K x4 μ8 else (if 31 ≤ (x4 + 1) then rec (x4 + 1) μ8 else b1 (fX12_burnsOne x1 μ8) (fun μ11 => rec (x4 + 1) μ11)))))
def fX12_needsNow_l23 (K : Int32 → Mem → Option (Int32 × Mem)) (x1 : Int32) : Nat → Int32 → Mem → Option (Int32 × Mem)
  | 0, _, _ => none
  | n + 1, x4, μ => fX12_needsNow_s23 (fX12_needsNow_l23 K x1 n) K x1 x4 μ
def fX12_needsNow_b56 (x1 : Int32) (x2 : Int32) (x3 : Int32) (x4 : Int32) (μ : Mem) : Option (Int32 × Mem) :=
  gd (ix (6 + x1) 39) (bd (upI μ 32 ((6 + x1).toNatClampNeg) x2) (fun μ15 => gd (ix (30 + x1) 39) (bd (upI μ15 32 ((30 + x1).toNatClampNeg) x3) (fun μ18 => some (x4, μ18)))))
def fX12_needsNow (x1 : Int32) (μ : Mem) : Option (Int32 × Mem) :=
  gd (ix (6 + x1) 39) (bd (μ.1 32 ((6 + x1).toNatClampNeg)) (fun y2 => gd (ix (30 + x1) 39) (bd (μ.1 32 ((30 + x1).toNatClampNeg)) (fun y5 => fX12_needsNow_l23 (fun y12 μ13 => fX12_needsNow_b56 x1 y2 y5 y12 μ13) x1 FU 0 μ))))
def fX12_runsOut_s2 (rec : Int32 → Mem → Option (Int32 × Mem)) (x1 : Int32) (μ : Mem) : Option (Int32 × Mem) :=
  b1 (fX12_many μ) (fun r2 => (if r2 ≤ x1 then some (0, μ) else b2 (fX12_needsNow x1 μ) (fun r5 μ4 => (if r5 ≤ 30 then (if r5 ≤ (μ4.1 32 37) then b1 (fX12_burns x1 r5 μ4) (fun μ7 => bd (upI μ7 32 37 ((μ7.1 32 37) - r5)) (fun μ8 => rec (x1 + 1) μ8)) else some (1, μ4)) else rec (x1 + 1) μ4))))
def fX12_runsOut_l2 : Nat → Int32 → Mem → Option (Int32 × Mem)
  | 0, _, _ => none
  | n + 1, x1, μ => fX12_runsOut_s2 (fX12_runsOut_l2 n) x1 μ
def fX12_runsOut (μ : Mem) : Option (Int32 × Mem) :=
  fX12_runsOut_l2 FU 0 μ
def fX12_lasts_s6 (rec : Int32 → Mem → Option (Int32 × Mem)) (x1 : Int32) (μ : Mem) : Option (Int32 × Mem) :=
  (if 60 ≤ x1 then some (60, μ) else b2 (fX12_runsOut μ) (fun r5 μ4 => (if r5 = 0 then b1 (fX12_dayGoes μ4) (fun μ7 => rec (x1 + 1) μ7) else some (x1, μ4))))
def fX12_lasts_l6 : Nat → Int32 → Mem → Option (Int32 × Mem)
  | 0, _, _ => none
  | n + 1, x1, μ => fX12_lasts_s6 (fX12_lasts_l6 n) x1 μ
def fX12_lasts (μ : Mem) : Option (Int32 × Mem) :=
  b1 (fX12_copiesStill μ) (fun μ2 => fX12_lasts_l6 FU 0 μ2)
def fX12_markOf (x1 : Int32) (x2 : Int32) (μ : Mem) : Option Int32 :=
  (if x2 = 0 then b1 (fX12_panesAt x1 μ) (fun r5 => some r5) else (if x2 = 1 then gd (ix (6 + x1) 39) (some (μ.1 31 ((6 + x1).toNatClampNeg))) else (if x2 = 2 then gd (ix (12 + x1) 39) (some (μ.1 31 ((12 + x1).toNatClampNeg))) else gd (ix x1 39) (some (μ.1 31 x1.toNatClampNeg)))))
def fX12_whoseBits_b51 (rec : Int32 → Int32 → Option Int32) (K : Int32 → Option Int32) (x1 : Int32) (x3 : Int32) (x4 : Int32) (x5 : Int32) (k0 : Int32) (μ : Mem) : Option Int32 :=
  gd (ix x5 20) ((if k0 = (μ.1 46 x5.toNatClampNeg) then rec x4 (x5 + 1) else rec 0 (x5 + 1)))
def fX12_whoseBits_s18 (rec : Int32 → Int32 → Option Int32) (K : Int32 → Option Int32) (x1 : Int32) (x3 : Int32) (x4 : Int32) (x5 : Int32) (μ : Mem) : Option Int32 :=
  (if x1 ≤ x5 then K x4 else gd (ix x5 20) (b1 (fX12_markOf x3 (μ.1 44 x5.toNatClampNeg) μ) (fun r5 => gd (ix x5 20) ((if r5 < (μ.1 45 x5.toNatClampNeg) then fX12_whoseBits_b51 rec K x1 x3 x4 x5 0 μ else fX12_whoseBits_b51 rec K x1 x3 x4 x5 1 μ)))))
def fX12_whoseBits_l18 (K : Int32 → Option Int32) (x1 : Int32) (x3 : Int32) (μ : Mem) : Nat → Int32 → Int32 → Option Int32
  | 0, _, _ => none
  | n + 1, x4, x5 => fX12_whoseBits_s18 (fX12_whoseBits_l18 K x1 x3 μ n) K x1 x3 x4 x5 μ
def fX12_whoseBits_s4 (rec : Int32 → Int32 → Option Int32) (x1 : Int32) (x2 : Int32) (x3 : Int32) (μ : Mem) : Option Int32 :=
  b1 (fX12_many μ) (fun r2 => (if r2 ≤ x3 then some x2 else fX12_whoseBits_l18 (fun y8 => (if y8 = 0 then rec x2 (x3 + 1) else bd (x2 ||| ((1 : Int32) <<< (x3 &&& 31))) (fun y9 => rec y9 (x3 + 1)))) x1 x3 μ FU 1 0))
def fX12_whoseBits_l4 (x1 : Int32) (μ : Mem) : Nat → Int32 → Int32 → Option Int32
  | 0, _, _ => none
  | n + 1, x2, x3 => fX12_whoseBits_s4 (fX12_whoseBits_l4 x1 μ n) x1 x2 x3 μ
def fX12_whoseBits (x1 : Int32) (μ : Mem) : Option Int32 :=
  fX12_whoseBits_l4 x1 μ FU 0 0
def fX12_look_s57 (rec : Int32 → Int32 → Option Int32) (K : Int32 → Option Int32) (x2 : Int32) (x3 : Int32) (x6 : Int32) (x7 : Int32) (x8 : Int32) (μ : Mem) : Option Int32 :=
  b1 (fX12_many μ) (fun r8 => (if r8 ≤ x8 then K x7 else (if ((x3 >>> (x8 &&& 31)) &&& 1) = 1 then b1 (fX12_markOf x8 x6 μ) (fun r10 => (if r10 < x2 then rec x7 (x8 + 1) else rec (x7 + 1) (x8 + 1))) else rec x7 (x8 + 1))))
def fX12_look_l57 (K : Int32 → Option Int32) (x2 : Int32) (x3 : Int32) (x6 : Int32) (μ : Mem) : Nat → Int32 → Int32 → Option Int32
  | 0, _, _ => none
  | n + 1, x7, x8 => fX12_look_s57 (fX12_look_l57 K x2 x3 x6 μ n) K x2 x3 x6 x7 x8 μ
def fX12_look_b121 (rec : Int32 → Int32 → Int32 → Option Int32) (x2 : Int32) (x3 : Int32) (x4 : Int32) (x5 : Int32) (x6 : Int32) (k0 : Int32) (μ : Mem) : Option Int32 :=
  (if x4 < 0 then rec x6 k0 (x6 + 1) else (if k0 < x5 then rec x6 k0 (x6 + 1) else rec x4 x5 (x6 + 1)))
def fX12_look_s41 (rec : Int32 → Int32 → Int32 → Option Int32) (x2 : Int32) (x3 : Int32) (x4 : Int32) (x5 : Int32) (x6 : Int32) (μ : Mem) : Option Int32 :=
  (if 4 ≤ x6 then some x4 else (if x3 = 0 then some x4 else fX12_look_l57 (fun y11 => b1 (fX12_bits x3) (fun r13 => (if y11 ≤ (r13 - y11) then b1 (fX12_bits x3) (fun r15 => fX12_look_b121 rec x2 x3 x4 x5 x6 (r15 - y11) μ) else fX12_look_b121 rec x2 x3 x4 x5 x6 y11 μ))) x2 x3 x6 μ FU 0 0))
def fX12_look_l41 (x2 : Int32) (x3 : Int32) (μ : Mem) : Nat → Int32 → Int32 → Int32 → Option Int32
  | 0, _, _, _ => none
  | n + 1, x4, x5, x6 => fX12_look_s41 (fX12_look_l41 x2 x3 μ n) x2 x3 x4 x5 x6 μ
def fX12_look (x1 : Int32) (x2 : Int32) (μ : Mem) : Option Int32 :=
  b1 (fX12_in x1 0 (μ.1 0 63)) (fun r2 => (if r2 = 0 then some (-1) else b1 (fX12_in x2 0 999) (fun r4 => (if r4 = 0 then some (-1) else b1 (fX12_whoseBits x1 μ) (fun r6 => fX12_look_l41 x2 r6 μ FU (-2) 0 0)))))
def fX12_loss (x1 : Int32) (x2 : Int32) (μ : Mem) : Option (Int32 × Mem) :=
  b1 (fX12_isHouse x1 μ) (fun r2 => (if r2 = 0 then some ((-1), μ) else b1 (fX12_isSmall x2) (fun r4 => (if r4 = 0 then some ((-1), μ) else b1 (fX12_copies μ) (fun μ6 => b1 (fX12_burns x1 x2 μ6) (fun μ8 => b2 (fX12_fadesOf x1 μ8) (fun r11 μ10 => some (r11, μ10))))))))
def fX12_mend (x1 : Int32) (μ : Mem) : Option (Int32 × Mem) :=
  b1 (fX12_isHouse x1 μ) (fun r2 => (if r2 = 0 then some ((-1), μ) else gd (ix x1 39) ((if (μ.1 31 x1.toNatClampNeg) = 0 then some ((-1), μ) else b1 (fX12_copies μ) (fun μ5 => b2 (fX12_mendsOf x1 μ5) (fun r8 μ7 => (if r8 ≤ (μ7.1 32 37) then gd (ix x1 39) (gd (ix x1 39) (bd (upI μ7 32 x1.toNatClampNeg ((μ7.1 32 x1.toNatClampNeg) - 1)) (fun μ11 => bd (upI μ11 32 37 ((μ11.1 32 37) - r8)) (fun μ13 => b1 (fX12_records μ13) (fun μ16 => some (r8, μ16)))))) else some ((-1), μ7))))))))
def fX12_must (x1 : Int32) (μ : Mem) : Option Mem :=
  b1 (fX12_is x1 μ) (fun r2 => (if r2 = 0 then b1 (fX12_fail 1 μ) (fun μ4 => some μ4) else b1 (fX12_goesOn μ) (fun μ6 => some μ6)))
def fX12_nearestIn_s6 (rec : Int32 → Int32 → Option Int32) (x1 : Int32) (x2 : Int32) (x3 : Int32) (x4 : Int32) (μ : Mem) : Option Int32 :=
  b1 (fX12_many μ) (fun r2 => (if r2 ≤ x4 then some x3 else (if ((x2 >>> (x4 &&& 31)) &&& 1) = 1 then (if x3 < 0 then rec x4 (x4 + 1) else b1 (fX12_farOf x1 x4 μ) (fun r4 => b1 (fX12_farOf x1 x3 μ) (fun r6 => (if r6 ≤ r4 then rec x3 (x4 + 1) else rec x4 (x4 + 1))))) else rec x3 (x4 + 1))))
def fX12_nearestIn_l6 (x1 : Int32) (x2 : Int32) (μ : Mem) : Nat → Int32 → Int32 → Option Int32
  | 0, _, _ => none
  | n + 1, x3, x4 => fX12_nearestIn_s6 (fX12_nearestIn_l6 x1 x2 μ n) x1 x2 x3 x4 μ
def fX12_nearestIn (x1 : Int32) (x2 : Int32) (μ : Mem) : Option Int32 :=
  fX12_nearestIn_l6 x1 x2 μ FU (-2) 0
def fX12_nearest (x1 : Int32) (μ : Mem) : Option Int32 :=
  b1 (fX12_isHouse x1 μ) (fun r2 => (if r2 = 0 then some (-1) else b1 (fX12_many μ) (fun r4 => b1 (fX12_nearestIn x1 ((((1 : Int32) <<< (r4 &&& 31)) - 1) &&& (((1 : Int32) <<< (x1 &&& 31)) ^^^ (-1))) μ) (fun r6 => some r6))))
def fX12_next_s47 (rec : Int32 → Option (Int32 × Mem)) (K : Int32 → Option (Int32 × Mem)) (x3 : Int32) (x4 : Int32) (x6 : Int32) (μ : Mem) : Option (Int32 × Mem) :=
  (if ((x3 >>> (x6 &&& 31)) &&& 1) = 1 then rec (x6 + 1) else b1 (fX12_restWith x3 x4 x6 μ) (fun r12 => gd (ix ((6 * x3) + x4) 384) ((if r12 = (μ.1 39 (((6 * x3) + x4).toNatClampNeg)) then K x6 else rec (x6 + 1)))))
def fX12_next_l47 (K : Int32 → Option (Int32 × Mem)) (x3 : Int32) (x4 : Int32) (μ : Mem) : Nat → Int32 → Option (Int32 × Mem)
  | 0, _ => none
  | n + 1, x6 => fX12_next_s47 (fX12_next_l47 K x3 x4 μ n) K x3 x4 x6 μ
def fX12_next_s38 (rec : Int32 → Int32 → Int32 → Option (Int32 × Mem)) (x2 : Int32) (x3 : Int32) (x4 : Int32) (x5 : Int32) (μ : Mem) : Option (Int32 × Mem) :=
  (if x2 ≤ x5 then some (x4, μ) else fX12_next_l47 (fun y14 => bd (x3 ||| ((1 : Int32) <<< (y14 &&& 31))) (fun y15 => rec y15 y14 (x5 + 1))) x3 x4 μ FU 0)
def fX12_next_l38 (x2 : Int32) (μ : Mem) : Nat → Int32 → Int32 → Int32 → Option (Int32 × Mem)
  | 0, _, _, _ => none
  | n + 1, x3, x4, x5 => fX12_next_s38 (fX12_next_l38 x2 μ n) x2 x3 x4 x5 μ
def fX12_next (x1 : Int32) (x2 : Int32) (μ : Mem) : Option (Int32 × Mem) :=
  b1 (fX12_isHouse x1 μ) (fun r2 => (if r2 = 0 then some ((-1), μ) else b1 (fX12_many μ) (fun r4 => b1 (fX12_in x2 0 (r4 - 1)) (fun r6 => (if r6 = 0 then some ((-1), μ) else b1 (fX12_fillsRest μ) (fun μ8 => bd ((1 : Int32) <<< (x1 &&& 31)) (fun y9 => fX12_next_l38 x2 μ8 FU y9 x1 0)))))))
def fX12_pairedOf_s18 (rec : Int32 → Option Int32) (x1 : Int32) (x2 : Int32) (x3 : Int32) (x4 : Int32) (μ : Mem) : Option Int32 :=
  b1 (fX12_many μ) (fun r8 => (if r8 ≤ x4 then some (-2) else (if ((x3 >>> (x4 &&& 31)) &&& 1) = 1 then b1 (fX12_pairedWith x2 x4 x3 μ) (fun r10 => gd (ix x1 64) ((if r10 = (μ.1 43 x1.toNatClampNeg) then some x4 else rec (x4 + 1)))) else rec (x4 + 1))))
def fX12_pairedOf_l18 (x1 : Int32) (x2 : Int32) (x3 : Int32) (μ : Mem) : Nat → Int32 → Option Int32
  | 0, _ => none
  | n + 1, x4 => fX12_pairedOf_s18 (fX12_pairedOf_l18 x1 x2 x3 μ n) x1 x2 x3 x4 μ
def fX12_pairedOf (x1 : Int32) (μ : Mem) : Option Int32 :=
  b1 (fX12_lowestOf x1) (fun r2 => bd (x1 &&& (((1 : Int32) <<< (r2 &&& 31)) ^^^ (-1))) (fun y3 => bd (r2 + 1) (fun y5 => fX12_pairedOf_l18 x1 r2 y3 μ FU y5)))
def fX12_paired_s51 (rec : Int32 → Option (Int32 × Mem)) (x1 : Int32) (x2 : Int32) (μ : Mem) : Option (Int32 × Mem) :=
  b1 (fX12_lowestOf x2) (fun r8 => b1 (fX12_pairedOf x2 μ) (fun r10 => (if r8 = x1 then some (r10, μ) else (if r10 = x1 then some (r8, μ) else bd (x2 &&& (((1 : Int32) <<< (r8 &&& 31)) ^^^ (-1))) (fun y11 => (if r10 < 0 then rec y11 else bd (y11 &&& (((1 : Int32) <<< (r10 &&& 31)) ^^^ (-1))) (fun y13 => rec y13)))))))
def fX12_paired_l51 (x1 : Int32) (μ : Mem) : Nat → Int32 → Option (Int32 × Mem)
  | 0, _ => none
  | n + 1, x2 => fX12_paired_s51 (fX12_paired_l51 x1 μ n) x1 x2 μ
def fX12_paired_b15 (x1 : Int32) (μ : Mem) : Option (Int32 × Mem) :=
  b1 (fX12_fillsPaired μ) (fun μ2 => b1 (fX12_many μ2) (fun r4 => bd (((1 : Int32) <<< (r4 &&& 31)) - 1) (fun y5 => (if x1 = (-1) then gd (ix y5 64) (b1 (fX12_many μ2) (fun r17 => some ((μ2.1 43 y5.toNatClampNeg) + (10000 * (r17 / 2)), μ2))) else fX12_paired_l51 x1 μ2 FU y5))))
def fX12_paired (x1 : Int32) (μ : Mem) : Option (Int32 × Mem) :=
  (if x1 = (-1) then fX12_paired_b15 x1 μ else b1 (fX12_isHouse x1 μ) (fun r19 => (if r19 = 0 then some ((-1), μ) else fX12_paired_b15 x1 μ)))
def fX12_pipes_s26 (rec : Int32 → Int32 → Option Int32) (K : Int32 → Option Int32) (x2 : Int32) (x4 : Int32) (x5 : Int32) (μ : Mem) : Option Int32 :=
  b1 (fX12_many μ) (fun r8 => (if r8 ≤ x5 then K x4 else (if ((x2 >>> (x5 &&& 31)) &&& 1) = 1 then rec x4 (x5 + 1) else (if x4 < 0 then rec x5 (x5 + 1) else b1 (fX12_nearestIn x5 x2 μ) (fun r10 => b1 (fX12_farOf x5 r10 μ) (fun r12 => b1 (fX12_nearestIn x4 x2 μ) (fun r14 => b1 (fX12_farOf x4 r14 μ) (fun r16 => (if r16 ≤ r12 then rec x4 (x5 + 1) else rec x5 (x5 + 1))))))))))
def fX12_pipes_l26 (K : Int32 → Option Int32) (x2 : Int32) (μ : Mem) : Nat → Int32 → Int32 → Option Int32
  | 0, _, _ => none
  | n + 1, x4, x5 => fX12_pipes_s26 (fX12_pipes_l26 K x2 μ n) K x2 x4 x5 μ
def fX12_pipes_s15 (rec : Int32 → Int32 → Option Int32) (x1 : Int32) (x2 : Int32) (x3 : Int32) (μ : Mem) : Option Int32 :=
  (if x2 = x1 then some x3 else fX12_pipes_l26 (fun y17 => b1 (fX12_nearestIn y17 x2 μ) (fun r19 => b1 (fX12_farOf y17 r19 μ) (fun r21 => bd (x3 + r21) (fun y22 => bd (x2 ||| ((1 : Int32) <<< (y17 &&& 31))) (fun y24 => rec y24 y22))))) x2 μ FU (-1) 0)
def fX12_pipes_l15 (x1 : Int32) (μ : Mem) : Nat → Int32 → Int32 → Option Int32
  | 0, _, _ => none
  | n + 1, x2, x3 => fX12_pipes_s15 (fX12_pipes_l15 x1 μ n) x1 x2 x3 μ
def fX12_pipes (μ : Mem) : Option Int32 :=
  b1 (fX12_many μ) (fun r2 => bd (((1 : Int32) <<< (r2 &&& 31)) - 1) (fun y3 => bd (y3 &&& 1) (fun y5 => fX12_pipes_l15 y3 μ FU y5 0)))
def fX12_place (μ : Mem) : Option Int32 :=
  some (μ.1 0 17)
def fX12_plain_s39 (rec : Int32 → Mem → Option Mem) (x1 : Int32) (x2 : Int32) (μ : Mem) : Option Mem :=
  (if 4 ≤ x2 then some μ else gd (ix ((4 * x1) + x2) 8) (bd (upI μ 19 (((4 * x1) + x2).toNatClampNeg) 0) (fun μ17 => gd (ix ((4 * x1) + x2) 8) (bd (upI μ17 20 (((4 * x1) + x2).toNatClampNeg) 0) (fun μ20 => rec (x2 + 1) μ20)))))
def fX12_plain_l39 (x1 : Int32) : Nat → Int32 → Mem → Option Mem
  | 0, _, _ => none
  | n + 1, x2, μ => fX12_plain_s39 (fX12_plain_l39 x1 n) x1 x2 μ
def fX12_plain (x1 : Int32) (μ : Mem) : Option Mem :=
  gd (ix x1 2) (bd (upI μ 9 x1.toNatClampNeg 0) (fun μ2 => gd (ix x1 2) (bd (upI μ2 15 x1.toNatClampNeg 20) (fun μ5 => gd (ix x1 2) (bd (upI μ5 16 x1.toNatClampNeg 20) (fun μ8 => gd (ix x1 2) (bd (upI μ8 17 x1.toNatClampNeg 0) (fun μ11 => gd (ix x1 2) (bd (upI μ11 18 x1.toNatClampNeg 0) (fun μ14 => fX12_plain_l39 x1 FU 0 μ14))))))))))
def fX12_plan_s51 (rec : Int32 → Mem → Option (Int32 × Mem)) (K : Mem → Option (Int32 × Mem)) (x7 : Int32) (μ : Mem) : Option (Int32 × Mem) :=
  (if 39 ≤ x7 then K μ else gd (ix x7 39) (gd (ix x7 39) (bd (upI μ 38 x7.toNatClampNeg (μ.1 32 x7.toNatClampNeg)) (fun μ11 => rec (x7 + 1) μ11))))
def fX12_plan_l51 (K : Mem → Option (Int32 × Mem)) : Nat → Int32 → Mem → Option (Int32 × Mem)
  | 0, _, _ => none
  | n + 1, x7, μ => fX12_plan_s51 (fX12_plan_l51 K n) K x7 μ
def fX12_plan_s93 (rec : Int32 → Mem → Option (Int32 × Mem)) (K : Mem → Option (Int32 × Mem)) (x8 : Int32) (μ : Mem) : Option (Int32 × Mem) :=
  (if 39 ≤ x8 then K μ else gd (ix x8 39) (gd (ix x8 39) (bd (upI μ 32 x8.toNatClampNeg (μ.1 38 x8.toNatClampNeg)) (fun μ16 => rec (x8 + 1) μ16))))
def fX12_plan_l93 (K : Mem → Option (Int32 × Mem)) : Nat → Int32 → Mem → Option (Int32 × Mem)
  | 0, _, _ => none
  | n + 1, x8, μ => fX12_plan_s93 (fX12_plan_l93 K n) K x8 μ
def fX12_plan_s81 (rec : Int32 → Int32 → Int32 → Int32 → Mem → Option (Int32 × Mem)) (K : Int32 → Int32 → Int32 → Mem → Option (Int32 × Mem)) (x1 : Int32) (x6 : Int32) (x3 : Int32) (x4 : Int32) (x5 : Int32) (x7 : Int32) (μ : Mem) : Option (Int32 × Mem) :=
  (if (x1 - x6) < x7 then K x3 x4 x5 μ else fX12_plan_l93 (fun μ18 => b1 (fX12_burnsShared x7 μ18) (fun μ20 => b1 (fX12_burnsShared ((x1 - x6) - x7) μ20) (fun μ22 => b1 (fX12_keptAll μ22) (fun r24 => (if x3 < r24 then b1 (fX12_keptAll μ22) (fun r26 => rec r26 x6 x7 (x7 + 1) μ22) else rec x3 x4 x5 (x7 + 1) μ22))))) FU 0 μ)
def fX12_plan_l81 (K : Int32 → Int32 → Int32 → Mem → Option (Int32 × Mem)) (x1 : Int32) (x6 : Int32) : Nat → Int32 → Int32 → Int32 → Int32 → Mem → Option (Int32 × Mem)
  | 0, _, _, _, _, _ => none
  | n + 1, x3, x4, x5, x7, μ => fX12_plan_s81 (fX12_plan_l81 K x1 x6 n) K x1 x6 x3 x4 x5 x7 μ
def fX12_plan_s32 (rec : Int32 → Int32 → Int32 → Int32 → Mem → Option (Int32 × Mem)) (K : Int32 → Int32 → Int32 → Mem → Option (Int32 × Mem)) (x1 : Int32) (x3 : Int32) (x4 : Int32) (x5 : Int32) (x6 : Int32) (μ : Mem) : Option (Int32 × Mem) :=
  (if x1 < x6 then K x3 x4 x5 μ else b1 (fX12_copiesStill μ) (fun μ6 => b1 (fX12_burnsShared x6 μ6) (fun μ8 => fX12_plan_l51 (fun μ13 => fX12_plan_l81 (fun y27 y28 y29 μ30 => rec y27 y28 y29 (x6 + 1) μ30) x1 x6 FU x3 x4 x5 0 μ13) FU 0 μ8)))
def fX12_plan_l32 (K : Int32 → Int32 → Int32 → Mem → Option (Int32 × Mem)) (x1 : Int32) : Nat → Int32 → Int32 → Int32 → Int32 → Mem → Option (Int32 × Mem)
  | 0, _, _, _, _, _ => none
  | n + 1, x3, x4, x5, x6, μ => fX12_plan_s32 (fX12_plan_l32 K x1 n) K x1 x3 x4 x5 x6 μ
def fX12_plan (x1 : Int32) (x2 : Int32) (μ : Mem) : Option (Int32 × Mem) :=
  b1 (fX12_in x1 0 10) (fun r2 => (if r2 = 0 then some ((-1), μ) else b1 (fX12_in x2 0 2) (fun r4 => (if r4 = 0 then some ((-1), μ) else fX12_plan_l32 (fun y31 y32 y33 μ34 => (if x2 = 0 then some (y31, μ34) else (if x2 = 1 then some (y32, μ34) else some (y33, μ34)))) x1 FU (-1) 0 0 0 μ))))
def fX12_tellHouse_s34 (rec : Int32 → Mem → Option Mem) (K : Mem → Option Mem) (x2 : Int32) (x3 : Int32) (μ : Mem) : Option Mem :=
  gd (ix (μ.1 0 19) 2) ((if (μ.1 9 ((μ.1 0 19).toNatClampNeg)) ≤ x3 then K μ else (if (μ.1 0 13) = 0 then gd (ix x3 6) (gd (ix x2 403) ((if (lg_cmp (μ.2 8 x3.toNatClampNeg) (μ.2 6 x2.toNatClampNeg)) = 0 then b1 (fX12_wrong 3 x2 μ) (fun μ14 => rec (x3 + 1) μ14) else rec (x3 + 1) μ))) else K μ)))
def fX12_tellHouse_l34 (K : Mem → Option Mem) (x2 : Int32) : Nat → Int32 → Mem → Option Mem
  | 0, _, _ => none
  | n + 1, x3, μ => fX12_tellHouse_s34 (fX12_tellHouse_l34 K x2 n) K x2 x3 μ
def fX12_tellHouse_b82 (x1 : Int32) (x2 : Int32) (μ : Mem) : Option Mem :=
  b2 (fX12_bounded 1 20 μ) (fun r18 μ17 => gd (ix x1 12) (bd (upI μ17 10 x1.toNatClampNeg r18) (fun μ20 => b2 (fX12_bounded 0 99 μ20) (fun r24 μ23 => gd (ix x1 12) (bd (upI μ23 11 x1.toNatClampNeg r24) (fun μ26 => b2 (fX12_bounded 0 999 μ26) (fun r30 μ29 => gd (ix x1 12) (bd (upI μ29 12 x1.toNatClampNeg r30) (fun μ32 => b2 (fX12_bounded 0 99 μ32) (fun r36 μ35 => gd (ix x1 12) (bd (upI μ35 13 x1.toNatClampNeg r36) (fun μ38 => b2 (fX12_bounded 0 99 μ38) (fun r42 μ41 => gd (ix x1 12) (bd (upI μ41 14 x1.toNatClampNeg r42) (fun μ44 => b1 (fX12_must 4 μ44) (fun μ47 => (if (μ47.1 0 13) ≤ 0 then gd (ix (μ47.1 0 19) 2) (gd (ix x2 403) (gd (ix (μ47.1 9 ((μ47.1 0 19).toNatClampNeg)) 6) (bd (upL μ47 8 ((μ47.1 9 ((μ47.1 0 19).toNatClampNeg)).toNatClampNeg) (μ47.2 6 x2.toNatClampNeg)) (fun μ51 => gd (ix (μ51.1 0 19) 2) (gd (ix (μ51.1 0 19) 2) (bd (upI μ51 9 ((μ51.1 0 19).toNatClampNeg) ((μ51.1 9 ((μ51.1 0 19).toNatClampNeg)) + 1)) (fun μ55 => some μ55))))))) else some μ47)))))))))))))))))
def fX12_tellHouse (μ : Mem) : Option Mem :=
  b1 (fX12_goesOn μ) (fun μ2 => gd (ix (μ2.1 0 19) 2) (bd ((6 * (μ2.1 0 19)) + (μ2.1 9 ((μ2.1 0 19).toNatClampNeg))) (fun y4 => bd (μ2.1 0 11) (fun y6 => b1 (fX12_must 1 μ2) (fun μ9 => fX12_tellHouse_l34 (fun μ15 => fX12_tellHouse_b82 y4 y6 μ15) y6 FU 0 μ9)))))
def fX12_toldInt (x1 : Int32) (x2 : Int32) (μ : Mem) : Option (Int32 × Mem) :=
  b1 (fX12_goesOn μ) (fun μ2 => b2 (fX12_bounded x1 x2 μ2) (fun r5 μ4 => b1 (fX12_must 4 μ4) (fun μ7 => some (r5, μ7))))
def fX12_term_b24 (μ : Mem) : Option Mem :=
  gd (ix (μ.1 0 33) 260) (bd (upI μ 25 ((μ.1 0 33).toNatClampNeg) (μ.1 0 39)) (fun μ5 => bd (upI μ5 0 33 ((μ5.1 0 33) + 1)) (fun μ7 => some μ7)))
def fX12_term (μ : Mem) : Option Mem :=
  gd (ix (μ.1 0 33) 260) (bd (upI μ 24 ((μ.1 0 33).toNatClampNeg) (μ.1 0 39)) (fun μ2 => (if (μ2.1 0 13) = 0 then b1 (fX12_expression μ2) (fun μ10 => fX12_term_b24 μ10) else fX12_term_b24 μ2)))
def fX12_tellLaw_b110 (rec : Int32 → Mem → Option Mem) (K : Mem → Option Mem) (x3 : Int32) (μ : Mem) : Option Mem :=
  b1 (fX12_must 30 μ) (fun μ23 => b1 (fX12_term μ23) (fun μ25 => b1 (fX12_must 31 μ25) (fun μ27 => rec x3 μ27)))
def fX12_tellLaw_b38 (rec : Int32 → Mem → Option Mem) (K : Mem → Option Mem) (x3 : Int32) (μ : Mem) : Option Mem :=
  (if (μ.1 0 13) ≤ 0 then b1 (fX12_goesOn μ) (fun μ8 => gd (ix (μ8.1 0 33) 260) (bd (upI μ8 21 ((μ8.1 0 33).toNatClampNeg) 1) (fun μ10 => gd (ix (μ10.1 0 33) 260) (bd (upI μ10 22 ((μ10.1 0 33).toNatClampNeg) (μ10.1 0 39)) (fun μ13 => b1 (fX12_expression μ13) (fun μ16 => b1 (fX12_must 13 μ16) (fun μ18 => gd (ix (μ18.1 0 33) 260) (bd (upI μ18 23 ((μ18.1 0 33).toNatClampNeg) (μ18.1 0 39)) (fun μ20 => (if (μ20.1 0 13) = 0 then b1 (fX12_expression μ20) (fun μ29 => fX12_tellLaw_b110 rec K (x3 + 1) μ29) else fX12_tellLaw_b110 rec K (x3 + 1) μ20)))))))))) else some μ)
def fX12_tellLaw_s12 (rec : Int32 → Mem → Option Mem) (K : Mem → Option Mem) (x3 : Int32) (μ : Mem) : Option Mem :=
  (if (μ.1 0 13) = 0 then b1 (fX12_is 29 μ) (fun r6 => (if r6 = 0 then K μ else (if x3 = 4 then b1 (fX12_fail 2 μ) (fun μ31 => fX12_tellLaw_b38 rec K x3 μ31) else fX12_tellLaw_b38 rec K x3 μ))) else K μ)
def fX12_tellLaw_l12 (K : Mem → Option Mem) : Nat → Int32 → Mem → Option Mem
  | 0, _, _ => none
  | n + 1, x3, μ => fX12_tellLaw_s12 (fX12_tellLaw_l12 K n) K x3 μ
def fX12_tellLaw_b129 (x1 : Int32) (x2 : Int32) (μ : Mem) : Option Mem :=
  gd (ix (μ.1 0 33) 260) (bd (upI μ 21 ((μ.1 0 33).toNatClampNeg) 0) (fun μ34 => b1 (fX12_term μ34) (fun μ37 => b1 (fX12_must 4 μ37) (fun μ39 => (if (μ39.1 0 13) ≤ 0 then gd (ix ((4 * (μ39.1 0 19)) + x1) 8) (bd (upI μ39 19 (((4 * (μ39.1 0 19)) + x1).toNatClampNeg) x2) (fun μ41 => gd (ix ((4 * (μ41.1 0 19)) + x1) 8) (bd (upI μ41 20 (((4 * (μ41.1 0 19)) + x1).toNatClampNeg) (μ41.1 0 33)) (fun μ44 => some μ44)))) else some μ39)))))
def fX12_tellLaw (x1 : Int32) (μ : Mem) : Option Mem :=
  b1 (fX12_must 5 μ) (fun μ2 => bd (μ2.1 0 33) (fun y3 => fX12_tellLaw_l12 (fun μ32 => fX12_tellLaw_b129 x1 y3 μ32) FU 0 μ2))
def fX12_tellOne_b79 (μ : Mem) : Option Mem :=
  (if (μ.1 0 13) = 0 then b1 (fX12_tellHouse μ) (fun μ6 => some μ6) else some μ)
def fX12_tellOne_b207 (x1 : Int32) (μ : Mem) : Option Mem :=
  (if (μ.1 0 13) ≤ 0 then b1 (fX12_goesOn μ) (fun μ44 => b1 (fX12_tellLaw x1 μ44) (fun μ46 => some μ46)) else some μ)
def fX12_tellOne_b202 (x1 : Int32) (μ : Mem) : Option Mem :=
  b1 (fX12_fail 1 μ) (fun μ42 => fX12_tellOne_b207 x1 μ42)
def fX12_tellOne (μ : Mem) : Option Mem :=
  gd (ix (μ.1 0 11) 403) (bd (μ.1 3 ((μ.1 0 11).toNatClampNeg)) (fun y2 => (if y2 = 20 then gd (ix (μ.1 0 19) 2) ((if (μ.1 9 ((μ.1 0 19).toNatClampNeg)) = 6 then b1 (fX12_fail 2 μ) (fun μ8 => fX12_tellOne_b79 μ8) else fX12_tellOne_b79 μ)) else if y2 = 25 then b2 (fX12_toldInt 0 999 μ) (fun r12 μ11 => gd (ix (μ.1 0 19) 2) (bd (upI μ11 15 ((μ.1 0 19).toNatClampNeg) r12) (fun μ14 => some μ14))) else if y2 = 26 then b2 (fX12_toldInt 1 99 μ) (fun r19 μ18 => gd (ix (μ.1 0 19) 2) (bd (upI μ18 16 ((μ.1 0 19).toNatClampNeg) r19) (fun μ21 => some μ21))) else if y2 = 27 then b2 (fX12_toldInt 0 100 μ) (fun r26 μ25 => gd (ix (μ.1 0 19) 2) (bd (upI μ25 17 ((μ.1 0 19).toNatClampNeg) r26) (fun μ28 => some μ28))) else if y2 = 28 then b2 (fX12_toldInt 0 9999 μ) (fun r33 μ32 => gd (ix (μ.1 0 19) 2) (bd (upI μ32 18 ((μ.1 0 19).toNatClampNeg) r33) (fun μ35 => some μ35))) else gd (ix (μ.1 0 11) 403) (bd ((μ.1 3 ((μ.1 0 11).toNatClampNeg)) - 21) (fun y39 => (if y39 < 0 then fX12_tellOne_b202 y39 μ else gd (ix (μ.1 0 11) 403) ((if (μ.1 3 ((μ.1 0 11).toNatClampNeg)) ≤ 24 then fX12_tellOne_b207 y39 μ else fX12_tellOne_b202 y39 μ))))))))
def fX12_read_s10 (rec : Int32 → Mem → Option (Int32 × Mem)) (K : Mem → Option (Int32 × Mem)) (x1 : Int32) (μ : Mem) : Option (Int32 × Mem) :=
  (if (μ.1 0 4) ≤ x1 then K μ else gd (ix x1 2000) (gd (ix x1 2000) (bd (upI μ 2 x1.toNatClampNeg ((μ.1 1 x1.toNatClampNeg).toInt8.toInt32)) (fun μ5 => rec (x1 + 1) μ5))))
def fX12_read_l10 (K : Mem → Option (Int32 × Mem)) : Nat → Int32 → Mem → Option (Int32 × Mem)
  | 0, _, _ => none
  | n + 1, x1, μ => fX12_read_s10 (fX12_read_l10 K n) K x1 μ
def fX12_read_s107 (rec : Mem → Option (Int32 × Mem)) (K : Mem → Option (Int32 × Mem)) (μ : Mem) : Option (Int32 × Mem) :=
  (if (μ.1 0 13) = 0 then b1 (fX12_is 0 μ) (fun r29 => (if r29 = 0 then b1 (fX12_tellOne μ) (fun μ31 => rec μ31) else K μ)) else K μ)
def fX12_read_l107 (K : Mem → Option (Int32 × Mem)) : Nat → Mem → Option (Int32 × Mem)
  | 0, _ => none
  | n + 1, μ => fX12_read_s107 (fX12_read_l107 K n) K μ
def fX12_read_s214 (rec : Int32 → Mem → Option (Int32 × Mem)) (x1 : Int32) (μ : Mem) : Option (Int32 × Mem) :=
  (if 3 ≤ x1 then some (0, μ) else gd (ix x1 3) (bd (upI μ 47 x1.toNatClampNeg 0) (fun μ46 => rec (x1 + 1) μ46)))
def fX12_read_l214 : Nat → Int32 → Mem → Option (Int32 × Mem)
  | 0, _, _ => none
  | n + 1, x1, μ => fX12_read_s214 (fX12_read_l214 n) x1 μ
def fX12_read_b159 (k1 : Int32) (μ : Mem) : Option (Int32 × Mem) :=
  bd (upI μ 0 17 k1) (fun μ33 => (if (μ33.1 0 13) ≤ 0 then (if (μ33.1 0 15) ≤ 0 then bd (upI μ33 0 18 (μ33.1 0 19)) (fun μ35 => b1 (fX12_begins μ35) (fun μ38 => b1 (fX12_keepsRow μ38) (fun μ40 => bd (upI μ40 0 53 0) (fun μ41 => bd (upI μ41 0 63 0) (fun μ43 => fX12_read_l214 FU 0 μ43))))) else some (μ33.1 0 15, μ33)) else some (μ33.1 0 13, μ33)))
def fX12_read_b129 (μ : Mem) : Option (Int32 × Mem) :=
  (if (μ.1 0 13) ≤ 0 then (if (μ.1 0 15) ≤ 0 then fX12_read_b159 (-1) μ else fX12_read_b159 (μ.1 0 16) μ) else fX12_read_b159 (μ.1 0 14) μ)
def fX12_read (μ : Mem) : Option (Int32 × Mem) :=
  bd (upI μ 0 4 (μ.1 0 2)) (fun μ1 => fX12_read_l10 (fun μ7 => bd (upI μ7 0 2 0) (fun μ8 => b1 (fX12_cutsUp μ8) (fun μ11 => bd (upI μ11 0 11 0) (fun μ12 => bd (upI μ12 0 12 0) (fun μ14 => bd (upI μ14 0 13 0) (fun μ16 => bd (upI μ16 0 15 0) (fun μ18 => bd (upI μ18 0 19 (1 - (μ18.1 0 18))) (fun μ20 => b1 (fX12_plain (μ20.1 0 19) μ20) (fun μ23 => bd (upI μ23 0 33 (130 * (μ23.1 0 19))) (fun μ24 => bd (upI μ24 0 39 (420 * (μ24.1 0 19))) (fun μ26 => fX12_read_l107 (fun μ32 => fX12_read_b129 μ32) FU μ26))))))))))) FU 0 μ1)
def fX12_restore_s22 (rec : Int32 → Mem → Option (Int32 × Mem)) (x1 : Int32) (x2 : Int32) (μ : Mem) : Option (Int32 × Mem) :=
  (if 39 ≤ x2 then bd (upI μ 0 53 0) (fun μ4 => some (1, μ4)) else gd (ix ((39 * x1) + x2) 117) (gd (ix x2 39) (bd (upI μ 31 x2.toNatClampNeg (μ.1 48 (((39 * x1) + x2).toNatClampNeg))) (fun μ8 => rec (x2 + 1) μ8))))
def fX12_restore_l22 (x1 : Int32) : Nat → Int32 → Mem → Option (Int32 × Mem)
  | 0, _, _ => none
  | n + 1, x2, μ => fX12_restore_s22 (fX12_restore_l22 x1 n) x1 x2 μ
def fX12_restore (x1 : Int32) (μ : Mem) : Option (Int32 × Mem) :=
  b1 (fX12_in x1 0 2) (fun r2 => (if r2 = 0 then some (0, μ) else gd (ix x1 3) ((if (μ.1 47 x1.toNatClampNeg) = 0 then some (0, μ) else fX12_restore_l22 x1 FU 0 μ))))
def fX12_roofsBy_s9 (rec : Int32 → Int32 → Mem → Option (Int32 × Mem)) (K : Mem → Option (Int32 × Mem)) (x2 : Int32) (x3 : Int32) (μ : Mem) : Option (Int32 × Mem) :=
  (if x3 < 0 then K μ else gd (ix x3 6) (bd (upI μ 40 x3.toNatClampNeg (x2 - x2 / 6 * 6)) (fun μ6 => gd (ix x3 6) (bd (upI μ6 42 x3.toNatClampNeg 0) (fun μ9 => bd (x2 / 6) (fun y11 => rec y11 (x3 + (-1)) μ9))))))
def fX12_roofsBy_l9 (K : Mem → Option (Int32 × Mem)) : Nat → Int32 → Int32 → Mem → Option (Int32 × Mem)
  | 0, _, _, _ => none
  | n + 1, x2, x3, μ => fX12_roofsBy_s9 (fX12_roofsBy_l9 K n) K x2 x3 μ
def fX12_roofsBy_b82 (rec : Int32 → Int32 → Mem → Option (Int32 × Mem)) (x3 : Int32) (x4 : Int32) (x5 : Int32) (μ : Mem) : Option (Int32 × Mem) :=
  gd (ix x5 6) (b1 (fX12_panesAt x4 μ) (fun r21 => gd (ix x5 6) (bd (upI μ 42 x5.toNatClampNeg ((μ.1 42 x5.toNatClampNeg) + r21)) (fun μ23 => gd (ix x5 6) (gd (ix (μ23.1 0 18) 2) ((if (μ23.1 42 x5.toNatClampNeg) ≤ (μ23.1 16 ((μ23.1 0 18).toNatClampNeg)) then rec x3 (x4 + 1) μ23 else some (7, μ23))))))))
def fX12_roofsBy_s46 (rec : Int32 → Int32 → Mem → Option (Int32 × Mem)) (x3 : Int32) (x4 : Int32) (μ : Mem) : Option (Int32 × Mem) :=
  b1 (fX12_many μ) (fun r15 => (if r15 ≤ x4 then some (x3, μ) else gd (ix x4 6) (bd (μ.1 40 x4.toNatClampNeg) (fun y17 => (if y17 ≤ x3 then (if y17 = x3 then fX12_roofsBy_b82 rec (x3 + 1) x4 y17 μ else fX12_roofsBy_b82 rec x3 x4 y17 μ) else some (7, μ))))))
def fX12_roofsBy_l46 : Nat → Int32 → Int32 → Mem → Option (Int32 × Mem)
  | 0, _, _, _ => none
  | n + 1, x3, x4, μ => fX12_roofsBy_s46 (fX12_roofsBy_l46 n) x3 x4 μ
def fX12_roofsBy (x1 : Int32) (μ : Mem) : Option (Int32 × Mem) :=
  b1 (fX12_many μ) (fun r2 => bd (r2 - 1) (fun y3 => fX12_roofsBy_l9 (fun μ13 => fX12_roofsBy_l46 FU 0 0 μ13) FU x1 y3 μ))
def fX12_roofs_s19 (rec : Int32 → Int32 → Option (Int32 × Mem)) (K : Int32 → Option (Int32 × Mem)) (x2 : Int32) (x3 : Int32) (μ : Mem) : Option (Int32 × Mem) :=
  b1 (fX12_many μ) (fun r2 => (if r2 ≤ x3 then K x2 else bd (x2 * 6) (fun y3 => rec y3 (x3 + 1))))
def fX12_roofs_l19 (K : Int32 → Option (Int32 × Mem)) (μ : Mem) : Nat → Int32 → Int32 → Option (Int32 × Mem)
  | 0, _, _ => none
  | n + 1, x2, x3 => fX12_roofs_s19 (fX12_roofs_l19 K μ n) K x2 x3 μ
def fX12_roofs_s73 (rec : Int32 → Mem → Option (Int32 × Mem)) (K : Mem → Option (Int32 × Mem)) (x6 : Int32) (μ : Mem) : Option (Int32 × Mem) :=
  b1 (fX12_many μ) (fun r10 => (if r10 ≤ x6 then K μ else gd (ix x6 6) (gd (ix x6 6) (bd (upI μ 41 x6.toNatClampNeg (μ.1 40 x6.toNatClampNeg)) (fun μ13 => rec (x6 + 1) μ13)))))
def fX12_roofs_l73 (K : Mem → Option (Int32 × Mem)) : Nat → Int32 → Mem → Option (Int32 × Mem)
  | 0, _, _ => none
  | n + 1, x6, μ => fX12_roofs_s73 (fX12_roofs_l73 K n) K x6 μ
def fX12_roofs_s44 (rec : Int32 → Int32 → Mem → Option (Int32 × Mem)) (K : Int32 → Mem → Option (Int32 × Mem)) (x2 : Int32) (x3 : Int32) (x4 : Int32) (μ : Mem) : Option (Int32 × Mem) :=
  (if x2 ≤ x4 then K x3 μ else b2 (fX12_roofsBy x4 μ) (fun r8 μ7 => (if r8 < x3 then fX12_roofs_l73 (fun μ15 => rec r8 (x4 + 1) μ15) FU 0 μ7 else rec x3 (x4 + 1) μ7)))
def fX12_roofs_l44 (K : Int32 → Mem → Option (Int32 × Mem)) (x2 : Int32) : Nat → Int32 → Int32 → Mem → Option (Int32 × Mem)
  | 0, _, _, _ => none
  | n + 1, x3, x4, μ => fX12_roofs_s44 (fX12_roofs_l44 K x2 n) K x2 x3 x4 μ
def fX12_roofs_b15 (x1 : Int32) (μ : Mem) : Option (Int32 × Mem) :=
  fX12_roofs_l19 (fun y5 => fX12_roofs_l44 (fun y16 μ17 => (if y16 = 7 then some ((-2), μ17) else (if x1 = (-1) then some (y16, μ17) else gd (ix x1 6) (some (μ17.1 41 x1.toNatClampNeg, μ17))))) y5 FU 7 0 μ) μ FU 1 0
def fX12_roofs (x1 : Int32) (μ : Mem) : Option (Int32 × Mem) :=
  (if x1 = (-1) then fX12_roofs_b15 x1 μ else b1 (fX12_isHouse x1 μ) (fun r20 => (if r20 = 0 then some ((-1), μ) else fX12_roofs_b15 x1 μ)))
def fX12_round (x1 : Int32) (μ : Mem) : Option (Int32 × Mem) :=
  b1 (fX12_isHouse x1 μ) (fun r2 => (if r2 = 0 then some ((-1), μ) else b1 (fX12_fillsRest μ) (fun μ4 => gd (ix ((6 * ((1 : Int32) <<< (x1 &&& 31))) + x1) 384) (some (μ4.1 39 (((6 * ((1 : Int32) <<< (x1 &&& 31))) + x1).toNatClampNeg), μ4)))))
def fX12_saves (x1 : Int32) (μ : Mem) : Option (Int32 × Mem) :=
  b1 (fX12_isHouse x1 μ) (fun r2 => (if r2 = 0 then some ((-100000), μ) else b2 (fX12_savesOf x1 μ) (fun r5 μ4 => some (r5, μ4))))
def fX12_share_s48 (rec : Int32 → Int32 → Option (Int32 × Mem)) (x2 : Int32) (x3 : Int32) (x4 : Int32) (μ : Mem) : Option (Int32 × Mem) :=
  (if x2 ≤ x4 then b1 (fX12_shareFor x2 x3 μ) (fun r8 => some (r8, μ)) else b1 (fX12_shareFor x4 x3 μ) (fun r10 => bd (x3 - r10) (fun y11 => rec y11 (x4 + 1))))
def fX12_share_l48 (x2 : Int32) (μ : Mem) : Nat → Int32 → Int32 → Option (Int32 × Mem)
  | 0, _, _ => none
  | n + 1, x3, x4 => fX12_share_s48 (fX12_share_l48 x2 μ n) x2 x3 x4 μ
def fX12_share_b22 (x1 : Int32) (x2 : Int32) (μ : Mem) : Option (Int32 × Mem) :=
  b1 (fX12_copies μ) (fun μ4 => b1 (fX12_fillsShare x1 μ4) (fun μ6 => (if x2 = (-1) then gd (ix x1 217) (some (μ6.1 37 x1.toNatClampNeg, μ6)) else fX12_share_l48 x2 μ6 FU x1 0)))
def fX12_share (x1 : Int32) (x2 : Int32) (μ : Mem) : Option (Int32 × Mem) :=
  b1 (fX12_isSmall x1) (fun r2 => (if r2 = 0 then some ((-1), μ) else (if x2 = (-1) then fX12_share_b22 x1 x2 μ else b1 (fX12_isHouse x2 μ) (fun r15 => (if r15 = 0 then some ((-1), μ) else fX12_share_b22 x1 x2 μ)))))
def fX12_summers_s17 (rec : Int32 → Int32 → Option Int32) (x1 : Int32) (x2 : Int32) (x3 : Int32) (μ : Mem) : Option Int32 :=
  b1 (fX12_many μ) (fun r4 => (if r4 ≤ x3 then some x2 else gd (ix (12 + x3) 39) ((if (μ.1 31 ((12 + x3).toNatClampNeg)) < x1 then rec x2 (x3 + 1) else rec (x2 + 1) (x3 + 1)))))
def fX12_summers_l17 (x1 : Int32) (μ : Mem) : Nat → Int32 → Int32 → Option Int32
  | 0, _, _ => none
  | n + 1, x2, x3 => fX12_summers_s17 (fX12_summers_l17 x1 μ n) x1 x2 x3 μ
def fX12_summers (x1 : Int32) (μ : Mem) : Option Int32 :=
  b1 (fX12_in x1 1 999) (fun r2 => (if r2 = 0 then some (-1) else fX12_summers_l17 x1 μ FU 0 0))
def fX12_tell (x1 : Int32) (x2 : Int32) (x3 : Int32) (μ : Mem) : Option (Int32 × Mem) :=
  (if (μ.1 0 63) = 20 then some ((-1), μ) else b1 (fX12_in x1 0 3) (fun r2 => (if r2 = 0 then some ((-1), μ) else b1 (fX12_in x2 0 999) (fun r4 => (if r4 = 0 then some ((-1), μ) else gd (ix (μ.1 0 63) 20) (bd (upI μ 44 ((μ.1 0 63).toNatClampNeg) x1) (fun μ6 => gd (ix (μ6.1 0 63) 20) (bd (upI μ6 45 ((μ6.1 0 63).toNatClampNeg) x2) (fun μ9 => gd (ix (μ9.1 0 63) 20) (bd (upI μ9 46 ((μ9.1 0 63).toNatClampNeg) (x3 &&& 1)) (fun μ12 => bd (upI μ12 0 63 ((μ12.1 0 63) + 1)) (fun μ14 => some ((μ14.1 0 63) - 1, μ14)))))))))))))
def fX12_then (x1 : Int32) (x2 : Int32) (x3 : Int32) (μ : Mem) : Option (Int32 × Mem) :=
  b1 (fX12_isHouse x1 μ) (fun r2 => (if r2 = 0 then some ((-1), μ) else b1 (fX12_isLong x2) (fun r4 => (if r4 = 0 then some ((-1), μ) else b1 (fX12_in x3 0 2) (fun r6 => (if r6 = 0 then some ((-1), μ) else b1 (fX12_copies μ) (fun μ8 => b1 (fX12_goes x2 μ8) (fun μ10 => (if x3 = 0 then gd (ix (6 + x1) 39) (some (μ10.1 32 ((6 + x1).toNatClampNeg), μ10)) else (if x3 = 1 then gd (ix (12 + x1) 39) (some (μ10.1 32 ((12 + x1).toNatClampNeg), μ10)) else gd (ix x1 39) (some (μ10.1 32 x1.toNatClampNeg, μ10))))))))))))
def fX12_twins_b63 (rec : Int32 → Int32 → Int32 → Option Int32) (K : Int32 → Int32 → Option Int32) (x4 : Int32) (x5 : Int32) (μ : Mem) : Option Int32 :=
  bd ((10 * x4) + x5) (fun y9 => b1 (fX12_unlike x4 x5 μ) (fun r12 => rec y9 r12 (x5 + 1)))
def fX12_twins_s35 (rec : Int32 → Int32 → Int32 → Option Int32) (K : Int32 → Int32 → Option Int32) (x4 : Int32) (x2 : Int32) (x3 : Int32) (x5 : Int32) (μ : Mem) : Option Int32 :=
  b1 (fX12_many μ) (fun r8 => (if r8 ≤ x5 then K x2 x3 else (if x2 < 0 then fX12_twins_b63 rec K x4 x5 μ else b1 (fX12_unlike x4 x5 μ) (fun r14 => (if r14 < x3 then fX12_twins_b63 rec K x4 x5 μ else rec x2 x3 (x5 + 1))))))
def fX12_twins_l35 (K : Int32 → Int32 → Option Int32) (x4 : Int32) (μ : Mem) : Nat → Int32 → Int32 → Int32 → Option Int32
  | 0, _, _, _ => none
  | n + 1, x2, x3, x5 => fX12_twins_s35 (fX12_twins_l35 K x4 μ n) K x4 x2 x3 x5 μ
def fX12_twins_s20 (rec : Int32 → Int32 → Int32 → Option Int32) (x1 : Int32) (x2 : Int32) (x3 : Int32) (x4 : Int32) (μ : Mem) : Option Int32 :=
  b1 (fX12_many μ) (fun r4 => (if r4 ≤ x4 then (if x1 = 0 then some x2 else some x3) else bd (x4 + 1) (fun y5 => fX12_twins_l35 (fun y15 y16 => rec y15 y16 (x4 + 1)) x4 μ FU x2 x3 y5)))
def fX12_twins_l20 (x1 : Int32) (μ : Mem) : Nat → Int32 → Int32 → Int32 → Option Int32
  | 0, _, _, _ => none
  | n + 1, x2, x3, x4 => fX12_twins_s20 (fX12_twins_l20 x1 μ n) x1 x2 x3 x4 μ
def fX12_twins (x1 : Int32) (μ : Mem) : Option Int32 :=
  b1 (fX12_in x1 0 1) (fun r2 => (if r2 = 0 then some (-1) else fX12_twins_l20 x1 μ FU (-2) (-2) 0))
def fX12_undo_s21 (rec : Int32 → Mem → Option (Int32 × Mem)) (x1 : Int32) (μ : Mem) : Option (Int32 × Mem) :=
  (if 39 ≤ x1 then some (1, μ) else gd (ix ((39 * (μ.1 0 53)) + x1) 1560) (gd (ix x1 39) (bd (upI μ 31 x1.toNatClampNeg (μ.1 35 (((39 * (μ.1 0 53)) + x1).toNatClampNeg))) (fun μ5 => rec (x1 + 1) μ5))))
def fX12_undo_l21 : Nat → Int32 → Mem → Option (Int32 × Mem)
  | 0, _, _ => none
  | n + 1, x1, μ => fX12_undo_s21 (fX12_undo_l21 n) x1 μ
def fX12_undo (μ : Mem) : Option (Int32 × Mem) :=
  (if (μ.1 0 53) = 0 then some (0, μ) else bd (upI μ 0 53 ((μ.1 0 53) - 1)) (fun μ1 => fX12_undo_l21 FU 0 μ1))
def fX12_whose (x1 : Int32) (x2 : Int32) (μ : Mem) : Option Int32 :=
  b1 (fX12_in x1 0 (μ.1 0 63)) (fun r2 => (if r2 = 0 then some (-1) else b1 (fX12_in x2 0 1) (fun r4 => (if r4 = 0 then some (-1) else b1 (fX12_whoseBits x1 μ) (fun r6 => (if x2 = 0 then b1 (fX12_bits r6) (fun r8 => some r8) else some r6))))))
def fX12_word (x0 : Int32) (x1 : Int32) (x2 : Int32) (x3 : Int32) (x4 : Int32) (x5 : Int32) (x6 : Int32) : Option Int64 :=
  b1 (fX12_appends 0 x0) (fun r2 => b1 (fX12_appends r2 x1) (fun r4 => b1 (fX12_appends r4 x2) (fun r6 => b1 (fX12_appends r6 x3) (fun r8 => b1 (fX12_appends r8 x4) (fun r10 => b1 (fX12_appends r10 x5) (fun r12 => b1 (fX12_appends r12 x6) (fun r14 => some r14)))))))
def fX12_worst_s20 (rec : Int32 → Int32 → Mem → Option (Int32 × Mem)) (K : Int32 → Mem → Option (Int32 × Mem)) (x2 : Int32) (x3 : Int32) (μ : Mem) : Option (Int32 × Mem) :=
  b1 (fX12_many μ) (fun r6 => (if r6 ≤ x3 then K x2 μ else (if x2 < 0 then rec x3 (x3 + 1) μ else b2 (fX12_fadesOf x3 μ) (fun r9 μ8 => b2 (fX12_fadesOf x2 μ8) (fun r12 μ11 => (if r9 ≤ r12 then rec x2 (x3 + 1) μ11 else rec x3 (x3 + 1) μ11))))))
def fX12_worst_l20 (K : Int32 → Mem → Option (Int32 × Mem)) : Nat → Int32 → Int32 → Mem → Option (Int32 × Mem)
  | 0, _, _, _ => none
  | n + 1, x2, x3, μ => fX12_worst_s20 (fX12_worst_l20 K n) K x2 x3 μ
def fX12_worst (x1 : Int32) (μ : Mem) : Option (Int32 × Mem) :=
  b1 (fX12_in x1 0 1) (fun r2 => (if r2 = 0 then some ((-1), μ) else b1 (fX12_copies μ) (fun μ4 => fX12_worst_l20 (fun y13 μ14 => (if y13 < 0 then some (y13, μ14) else (if x1 = 0 then some (y13, μ14) else b2 (fX12_fadesOf y13 μ14) (fun r17 μ16 => some (r17, μ16))))) FU (-2) 0 μ4)))
def fX12_year_s33 (rec : Int32 → Int32 → Mem → Option (Int32 × Mem)) (x1 : Int32) (x2 : Int32) (x3 : Int32) (x4 : Int32) (x5 : Int32) (μ : Mem) : Option (Int32 × Mem) :=
  (if x3 ≤ x5 then some (x4, μ) else b1 (fX12_copies μ) (fun μ8 => bd (upI μ8 0 49 ((μ8.1 0 49) + x5)) (fun μ9 => b1 (fX12_goes x2 μ9) (fun μ12 => gd (ix (12 + x1) 39) ((if (μ12.1 32 ((12 + x1).toNatClampNeg)) ≤ 0 then rec x4 (x5 + 1) μ12 else rec (x4 + 1) (x5 + 1) μ12))))))
def fX12_year_l33 (x1 : Int32) (x2 : Int32) (x3 : Int32) : Nat → Int32 → Int32 → Mem → Option (Int32 × Mem)
  | 0, _, _, _ => none
  | n + 1, x4, x5, μ => fX12_year_s33 (fX12_year_l33 x1 x2 x3 n) x1 x2 x3 x4 x5 μ
def fX12_year (x1 : Int32) (x2 : Int32) (x3 : Int32) (μ : Mem) : Option (Int32 × Mem) :=
  b1 (fX12_isHouse x1 μ) (fun r2 => (if r2 = 0 then some ((-1), μ) else b1 (fX12_isLong x2) (fun r4 => (if r4 = 0 then some ((-1), μ) else b1 (fX12_in x3 1 20) (fun r6 => (if r6 = 0 then some ((-1), μ) else fX12_year_l33 x1 x2 x3 FU 0 0 μ))))))
