def fX12_back (x1 : Int32) (μ : Mem) : Option (Int32 × Mem) :=
  (if x1 < 0 then some ((-1), μ) else (if x1 ≤ (μ.1 0 2) then bd (upI μ 0 2 ((μ.1 0 2) - x1)) (fun μ1 => some (μ1.1 0 2, μ1)) else some ((-1), μ)))
def fX12_many (μ : Mem) : Option Int32 :=
  gd (ix (μ.1 0 18) 2) (some (μ.1 9 ((μ.1 0 18).toNatClampNeg)))
def fX12_copies_s2 (rec : Int32 → Mem → Option Mem) (K : Mem → Option Mem) (x1 : Int32) (μ : Mem) : Option Mem :=
  (if 39 ≤ x1 then K μ else gd (ix x1 39) (gd (ix x1 39) (bd (upI μ 32 x1.toNatClampNeg (μ.1 31 x1.toNatClampNeg)) (fun μ3 => rec (x1 + 1) μ3))))
def fX12_copies_l2 (K : Mem → Option Mem) : Nat → Int32 → Mem → Option Mem
  | 0, _, _ => none
  | n + 1, x1, μ => fX12_copies_s2 (fX12_copies_l2 K n) K x1 μ
def fX12_copies (μ : Mem) : Option Mem :=
  fX12_copies_l2 (fun μ5 => gd (ix (μ5.1 0 18) 2) (bd (upI μ5 0 49 (μ5.1 18 ((μ5.1 0 18).toNatClampNeg))) (fun μ7 => bd (upI μ7 0 50 0) (fun μ9 => some μ9)))) FU 0 μ
def fX12_panesAt (x1 : Int32) (μ : Mem) : Option Int32 :=
  gd (ix ((6 * (μ.1 0 18)) + x1) 12) (some (μ.1 10 (((6 * (μ.1 0 18)) + x1).toNatClampNeg)))
def fX12_within (x0 : Int32) (x1 : Int32) (x2 : Int32) : Option Int32 :=
  (if x1 ≤ x0 then (if x0 ≤ x2 then some x0 else some x2) else some x1)
def fX12_in (x0 : Int32) (x1 : Int32) (x2 : Int32) : Option Int32 :=
  (if x0 < x1 then some 0 else (if x2 < x0 then some 0 else some 1))
def fX12_isHouse (x1 : Int32) (μ : Mem) : Option Int32 :=
  b1 (fX12_many μ) (fun r2 => b1 (fX12_in x1 0 (r2 - 1)) (fun r4 => some (r4 &&& 1)))
