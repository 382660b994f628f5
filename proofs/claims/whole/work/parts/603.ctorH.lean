theorem dX0_init_0 : decode cX0_init 0 = .ok (.aload_n 0, 1) := by decide +kernel
theorem dX0_init_1 : decode cX0_init 1 = .ok (.invokespecial 1, 3) := by decide +kernel
theorem dX0_init_4 : decode cX0_init 4 = .ok (.aload_n 0, 1) := by decide +kernel
theorem dX0_init_5 : decode cX0_init 5 = .ok (.bipush 40, 2) := by decide +kernel
theorem dX0_init_7 : decode cX0_init 7 = .ok (.anewarray 9, 3) := by decide +kernel
theorem dX0_init_10 : decode cX0_init 10 = .ok (.putfield 11, 3) := by decide +kernel
theorem dX0_init_13 : decode cX0_init 13 = .ok (.iconst 0, 1) := by decide +kernel
theorem dX0_init_14 : decode cX0_init 14 = .ok (.istore_n 1, 1) := by decide +kernel
theorem dX0_init_15 : decode cX0_init 15 = .ok (.iload_n 1, 1) := by decide +kernel
theorem dX0_init_16 : decode cX0_init 16 = .ok (.bipush 40, 2) := by decide +kernel
theorem dX0_init_18 : decode cX0_init 18 = .ok (.if_icmp .ge 22, 3) := by decide +kernel
theorem dX0_init_21 : decode cX0_init 21 = .ok (.aload_n 0, 1) := by decide +kernel
theorem dX0_init_22 : decode cX0_init 22 = .ok (.getfield 11, 3) := by decide +kernel
theorem dX0_init_25 : decode cX0_init 25 = .ok (.iload_n 1, 1) := by decide +kernel
theorem dX0_init_26 : decode cX0_init 26 = .ok (.new 9, 3) := by decide +kernel
theorem dX0_init_29 : decode cX0_init 29 = .ok (.dup, 1) := by decide +kernel
theorem dX0_init_30 : decode cX0_init 30 = .ok (.invokespecial 15, 3) := by decide +kernel
theorem dX0_init_33 : decode cX0_init 33 = .ok (.aastore, 1) := by decide +kernel
theorem dX0_init_34 : decode cX0_init 34 = .ok (.iinc 1 1, 3) := by decide +kernel
theorem dX0_init_37 : decode cX0_init 37 = .ok (.goto (-22), 3) := by decide +kernel
theorem dX0_init_40 : decode cX0_init 40 = .ok (.aload_n 0, 1) := by decide +kernel
theorem dX0_init_41 : decode cX0_init 41 = .ok (.iconst 3, 1) := by decide +kernel
theorem dX0_init_42 : decode cX0_init 42 = .ok (.anewarray 9, 3) := by decide +kernel
theorem dX0_init_45 : decode cX0_init 45 = .ok (.putfield 16, 3) := by decide +kernel
theorem dX0_init_48 : decode cX0_init 48 = .ok (.iconst 0, 1) := by decide +kernel
theorem dX0_init_49 : decode cX0_init 49 = .ok (.istore_n 1, 1) := by decide +kernel
theorem dX0_init_50 : decode cX0_init 50 = .ok (.iload_n 1, 1) := by decide +kernel
theorem dX0_init_51 : decode cX0_init 51 = .ok (.iconst 3, 1) := by decide +kernel
theorem dX0_init_52 : decode cX0_init 52 = .ok (.if_icmp .ge 22, 3) := by decide +kernel
theorem dX0_init_55 : decode cX0_init 55 = .ok (.aload_n 0, 1) := by decide +kernel
theorem dX0_init_56 : decode cX0_init 56 = .ok (.getfield 16, 3) := by decide +kernel
theorem dX0_init_59 : decode cX0_init 59 = .ok (.iload_n 1, 1) := by decide +kernel
theorem dX0_init_60 : decode cX0_init 60 = .ok (.new 9, 3) := by decide +kernel
theorem dX0_init_63 : decode cX0_init 63 = .ok (.dup, 1) := by decide +kernel
theorem dX0_init_64 : decode cX0_init 64 = .ok (.invokespecial 15, 3) := by decide +kernel
theorem dX0_init_67 : decode cX0_init 67 = .ok (.aastore, 1) := by decide +kernel
theorem dX0_init_68 : decode cX0_init 68 = .ok (.iinc 1 1, 3) := by decide +kernel
theorem dX0_init_71 : decode cX0_init 71 = .ok (.goto (-21), 3) := by decide +kernel
theorem dX0_init_74 : decode cX0_init 74 = .ok (.aload_n 0, 1) := by decide +kernel
theorem dX0_init_75 : decode cX0_init 75 = .ok (.iconst 3, 1) := by decide +kernel
theorem dX0_init_76 : decode cX0_init 76 = .ok (.newarray .boolean, 2) := by decide +kernel
theorem dX0_init_78 : decode cX0_init 78 = .ok (.putfield 19, 3) := by decide +kernel
theorem dX0_init_81 : decode cX0_init 81 = .ok (.return_, 1) := by decide +kernel
theorem arrV_congr {cA : ClassId} {n : Nat} {f g : Nat → Value} (h : ∀ k, k < n → f k = g k) : arrV cA n f = arrV cA n g := by
  unfold arrV
  congr 2
  funext k
  exact h k.val k.isLt
theorem Hd.msk {G : GG} {DS : List (Nat × Nat)} {B lo hi : Nat} {E : State → Prop} {N N' : Nat → Nat → Bool} {μ : Mem} {H : Heap} (hH : Hd (ωk G DS B lo hi E N) μ H) (h : ∀ j t n k, lo ≤ j → j < hi → DS[j]? = some (t, n) → (t < 100 → N' j k = N j k) ∧ (k < n → N' j k = N j k)) : Hd (ωk G DS B lo hi E N') μ H := by
  intro j t n hv hd
  have hv : lo ≤ j ∧ j < hi := hv
  have hd : DS[j]? = some (t, n) := hd
  have h0 : cell_at G B N μ j t n H := hH j t n hv hd
  refine ⟨fun ht => ?_, fun ht => ?_⟩
  · exact (h0.mask (fun k => (h j t n k hv.1 hv.2 hd).1 ht)).1 ht
  · refine (h0.2 ht).trans ?_
    congr 1
    refine arrV_congr fun k hk => ?_
    have := (h j t n k hv.1 hv.2 hd).2 hk
    show av B N μ j t k = av B N' μ j t k
    simp only [av, this]
/-- a State made at j -/
def stp (j : Nat) (μ : Mem) : Mem := mg j (zr μ j) (zr (zr μ j) (j + 1))
def mkS (b : Nat) : Nat → Mem → Mem
  | 0, μ => μ
  | n + 1, μ => stp (b + 2 * n) (mkS b n μ)
def mA (i : Nat) (Rem : List Nat) (a n : Nat) : Nat → Nat → Bool := fun j k => nf i Rem j k || ((j == a) && decide (n ≤ k))
theorem mA_i {i a n k : Nat} {Rem : List Nat} (h : i ≠ a) : mA i Rem a n i k = Rem.contains k := by simp [mA, nf, h]
theorem mA_a {i a n k : Nat} {Rem : List Nat} (h : a ≠ i) : mA i Rem a n a k = decide (n ≤ k) := by simp [mA, nf, h]
theorem mA_o {i a n j k : Nat} {Rem : List Nat} (h : j ≠ i) (h2 : j ≠ a) : mA i Rem a n j k = false := by simp [mA, nf, h, h2]
theorem mA_put {B : Nat} {μ : Mem} {i t k x a n : Nat} {Rem : List Nat} (ha : i ≠ a) (hk : FT t k ≠ 0) (hR : Rem.contains k = false) : fv B (mA i Rem a n) μ i t x = if x = k then .ref (B + (i + FT t k)) else fv B (mA i (k :: Rem) a n) μ i t x := by
  unfold fv
  rw [mA_i ha, mA_i ha]
  by_cases e : x = k
  · subst e
    have h9 : x ∉ Rem := by simpa using hR
    simp [hk, h9]
  · simp [e]
theorem f7 (i : Nat) (μ : Mem) : fX7_init i μ = some (zr μ (i + 1)) := rfl
def fX0_init (i : Nat) (μ : Mem) : Option Mem := some (zr (mkS (i + 83) 3 (zr (mkS (i + 2) 40 (zr μ (i + 1))) (i + 82))) (i + 89))
theorem lay_h1 {DS : List (Nat × Nat)} {i : Nat} (hd : ∀ r x, LHistory[r]? = some x → DS[i + r]? = some x) {n : Nat} (hn : n < 40) : ∀ r x, LState[r]? = some x → DS[i + 2 + 2 * n + r]? = some x := by
  intro r x h
  have hr : r < 2 := (List.getElem?_eq_some_iff.mp h).1
  have h2 : (List.range 40).all (fun n => (List.range 2).all (fun r => LHistory[2 + 2 * n + r]? == LState[r]?)) = true := by decide +kernel
  have h3 := List.all_eq_true.mp (List.all_eq_true.mp h2 n (List.mem_range.mpr hn)) r (List.mem_range.mpr hr)
  have h4 : LHistory[2 + 2 * n + r]? = LState[r]? := by simpa using h3
  have h5 := hd (2 + 2 * n + r) x (h4.trans h)
  rw [show i + 2 + 2 * n + r = i + (2 + 2 * n + r) by omega]
  exact h5
theorem lay_h2 {DS : List (Nat × Nat)} {i : Nat} (hd : ∀ r x, LHistory[r]? = some x → DS[i + r]? = some x) {n : Nat} (hn : n < 3) : ∀ r x, LState[r]? = some x → DS[i + 83 + 2 * n + r]? = some x := by
  intro r x h
  have hr : r < 2 := (List.getElem?_eq_some_iff.mp h).1
  have h2 : (List.range 3).all (fun n => (List.range 2).all (fun r => LHistory[83 + 2 * n + r]? == LState[r]?)) = true := by decide +kernel
  have h3 := List.all_eq_true.mp (List.all_eq_true.mp h2 n (List.mem_range.mpr hn)) r (List.mem_range.mpr hr)
  have h4 : LHistory[83 + 2 * n + r]? = LState[r]? := by simpa using h3
  have h5 := hd (83 + 2 * n + r) x (h4.trans h)
  rw [show i + 83 + 2 * n + r = i + (83 + 2 * n + r) by omega]
  exact h5
section HI
variable {p : Program} {l : Launch} {e : Env} {R : Room} {s : State} {m : MethodId} {args : Array Value} {below : List Frame} {meth : Method} {c : Code} {Q : State → Prop}
variable {G : GG} {DS : List (Nat × Nat)} {B i : Nat} {E : State → Prop} {μ : Mem}

theorem w_h1 (hE : ∀ U, E U → KX G U) (hok : Eok (B + i) E) (hd : ∀ r x, LHistory[r]? = some x → DS[i + r]? = some x) (hR1 : 4 ≤ R.frames) (hR2 : 256 ≤ R.locals) (C : Cx (ωk G DS B i (i + 2) E (mA i [1, 2] (i + 1) 0)) p s m args c cX0_init 2 RX0)
    {ce sl : Nat} (hce : ce + 2 * 40 ≤ R.cells) (hsl : sl + 47 * 40 ≤ R.slots)
    (kk : ∀ (H : Heap) (locs : List Loc) (ls : Array Slot), lv_has ls 2 [(1, .int (nI 40)), (0, .ref (B + i))] → Hd (ωk G DS B i (i + 2 + 2 * 40) E (mA i [1, 2] (i + 1) 40)) (mkS (i + 2) 40 μ) H → FS (ωk G DS B i (i + 2 + 2 * 40) E (mA i [1, 2] (i + 1) 40)) s H locs → W p l e R s m args below meth c H locs (ce + 2 * 40) (sl + 47 * 40) Q (F0 m 40 ls [])) :
    ∀ (q n : Nat) (H : Heap) (locs : List Loc) (ls : Array Slot), n + q = 40 → lv_has ls 2 [(1, .int (nI n)), (0, .ref (B + i))] → Hd (ωk G DS B i (i + 2 + 2 * n) E (mA i [1, 2] (i + 1) n)) (mkS (i + 2) n μ) H → FS (ωk G DS B i (i + 2 + 2 * n) E (mA i [1, 2] (i + 1) n)) s H locs → W p l e R s m args below meth c H locs (ce + 2 * n) (sl + 47 * n) Q (F0 m 15 ls []) := by
  have hx := C.1
  have hb := C.2.1
  intro q
  induction q with
  | zero =>
    intro n H locs ls hn hl hH hS
    have : n = 40 := by omega
    subst this
    refine lv_iload_n hx hb dX0_init_15 rfl (lv_at hl 0 rfl) ?_
    refine lv_bipush (v := 40) hx hb dX0_init_16 (by decide) ?_
    exact lv_icmp_ge (tgt := 40) hx hb dX0_init_18 (by decide) (fun hc => kk H locs ls hl hH hS) (fun hc => absurd (by decide) hc)
  | succ q ih =>
    intro n H locs ls hn hl hH hS
    have hn2 : n < 40 := by omega
    have C : Cx (ωk G DS B i (i + 2 + 2 * n) E (mA i [1, 2] (i + 1) n)) p s m args c cX0_init 2 RX0 := Cx.ofk hok C
    refine lv_iload_n hx hb dX0_init_15 rfl (lv_at hl 0 rfl) ?_
    refine lv_bipush (v := 40) hx hb dX0_init_16 (by decide) ?_
    refine lv_icmp_ge (tgt := 40) hx hb dX0_init_18 (by decide) (fun hc => absurd hc (nI_ge hn2 (by decide))) (fun hc => ?_)
    refine lv_aload_n hx hb dX0_init_21 rfl (lv_at hl 1 rfl) ?_
    refine h_getr (j := i) (k := 0) (i := i + 1) C hH ⟨by omega, by omega⟩ (hd 0 _ rfl) (by decide) rfl (show 0 < 5 by decide) rfl (by decide) (by show mA _ _ _ _ _ _ = false; rw [mA_i (by omega)]; decide) rfl wd_357 dX0_init_22 ?_
    refine lv_iload_n hx hb dX0_init_25 rfl (lv_at hl 0 rfl) ?_
    refine k_new (N' := ch (i + 2 + 2 * n) (mA i [1, 2] (i + 1) n)) (ty := tyX7) (r := (RX7, TX7, 5)) C hH hS (by omega) (lay_h1 hd hn2 0 _ rfl) (by decide) rfl tyX7_ok (by decide +kernel) (fun k => ch_eq) (fun j k hj => ch_ne (by omega)) wd_354 wd_317 wd_107 (by omega) (by show _ + 5 ≤ _; omega) dX0_init_26 (fun H hH hS => ?_)
    refine lv_dup hx hb dX0_init_29 rfl ?_
    refine k_init (as := []) (rest := [.ref (B + (i + 2 + 2 * n)), .int (nI n), .ref (B + (i + 1))]) (N' := mA i [1, 2] (i + 1) n) (i_X7 hE (lay_h1 hd hn2) (f7 _ _)) hok (Cx.ofk hok C) hl.1 (by omega) hH (fun k => ch_eq) (fun j k hj => (ch_ne (by omega)).symm) (fun j k hj => mA_o (by omega) (by omega)) hS rfl mw_X7_init rfl wd_319 wd_356 rfl ⟨by omega, by omega⟩ (Nat.le_of_ble_eq_true rfl) ⟨by omega, by show _ + 5 + 42 ≤ _; omega⟩ dX0_init_30 (fun H locs hH hS => ?_)
    have hcl : (nI n).toNatClampNeg = n := nI_clamp (by omega)
    rw [show i + 2 + 2 * n = i + 1 + 1 + 2 * (nI n).toNatClampNeg by rw [hcl]]
    refine k_aast (N' := mA i [1, 2] (i + 1) (n + 1)) (j := i + 1) (n := 40) (Cx.ofk hok C) hE hH hS ⟨by omega, by omega⟩ (hd 1 _ rfl) (by unfold ix; rw [hcl]; simp [nI_pos' (show n < 2 ^ 31 by omega), hn2]) ⟨by rw [hcl]; omega, by rw [hcl]; omega⟩ (by rw [hcl, show i + 1 + 1 + 2 * n = i + 2 + 2 * n + 0 by omega]; exact lay_h1 hd hn2 0 _ rfl) (fun x y => ?_) dX0_init_33 (fun H locs hH hS => ?_)
    · rw [hcl]
      by_cases e1 : x = i + 1
      · subst e1
        rw [mA_a (by omega), mA_a (by omega)]
        by_cases e2 : y = n
        · subst e2; simp
        · simp only [e2, and_false, if_false]
          congr 1
          apply propext
          omega
      · simp only [e1, false_and, if_false, mA]
        have : (x == i + 1) = false := by simp [e1]
        rw [this]; simp
    refine lv_iinc (v := nI (n + 1)) (lv' := [(1, .int (nI (n + 1))), (0, .ref (B + i))]) hx hb dX0_init_34 hl (k := 0) rfl (nI_1 n) (by decide) rfl (fun ls hl => ?_)
    refine lv_goto (tgt := 15) hx hb dX0_init_37 (by decide) ?_
    refine W.cs (cells' := ce + 2 * (n + 1)) (slots' := sl + 47 * (n + 1)) (by omega) (by show sl + 47 * n + 5 + 42 = _; omega) ?_
    exact ih (n + 1) H locs ls (by omega) hl hH hS
theorem w_h2 (hE : ∀ U, E U → KX G U) (hok : Eok (B + i) E) (hd : ∀ r x, LHistory[r]? = some x → DS[i + r]? = some x) (hR1 : 4 ≤ R.frames) (hR2 : 256 ≤ R.locals) (C : Cx (ωk G DS B i (i + 83) E (mA i [2] (i + 82) 0)) p s m args c cX0_init 2 RX0)
    {ce sl : Nat} (hce : ce + 2 * 3 ≤ R.cells) (hsl : sl + 47 * 3 ≤ R.slots)
    (kk : ∀ (H : Heap) (locs : List Loc) (ls : Array Slot), lv_has ls 2 [(1, .int (nI 3)), (0, .ref (B + i))] → Hd (ωk G DS B i (i + 83 + 2 * 3) E (mA i [2] (i + 82) 3)) (mkS (i + 83) 3 μ) H → FS (ωk G DS B i (i + 83 + 2 * 3) E (mA i [2] (i + 82) 3)) s H locs → W p l e R s m args below meth c H locs (ce + 2 * 3) (sl + 47 * 3) Q (F0 m 74 ls [])) :
    ∀ (q n : Nat) (H : Heap) (locs : List Loc) (ls : Array Slot), n + q = 3 → lv_has ls 2 [(1, .int (nI n)), (0, .ref (B + i))] → Hd (ωk G DS B i (i + 83 + 2 * n) E (mA i [2] (i + 82) n)) (mkS (i + 83) n μ) H → FS (ωk G DS B i (i + 83 + 2 * n) E (mA i [2] (i + 82) n)) s H locs → W p l e R s m args below meth c H locs (ce + 2 * n) (sl + 47 * n) Q (F0 m 50 ls []) := by
  have hx := C.1
  have hb := C.2.1
  intro q
  induction q with
  | zero =>
    intro n H locs ls hn hl hH hS
    have : n = 3 := by omega
    subst this
    refine lv_iload_n hx hb dX0_init_50 rfl (lv_at hl 0 rfl) ?_
    refine lv_iconst (v := 3) hx hb dX0_init_51 (by decide) ?_
    exact lv_icmp_ge (tgt := 74) hx hb dX0_init_52 (by decide) (fun hc => kk H locs ls hl hH hS) (fun hc => absurd (by decide) hc)
  | succ q ih =>
    intro n H locs ls hn hl hH hS
    have hn2 : n < 3 := by omega
    have C : Cx (ωk G DS B i (i + 83 + 2 * n) E (mA i [2] (i + 82) n)) p s m args c cX0_init 2 RX0 := Cx.ofk hok C
    refine lv_iload_n hx hb dX0_init_50 rfl (lv_at hl 0 rfl) ?_
    refine lv_iconst (v := 3) hx hb dX0_init_51 (by decide) ?_
    refine lv_icmp_ge (tgt := 74) hx hb dX0_init_52 (by decide) (fun hc => absurd hc (nI_ge hn2 (by decide))) (fun hc => ?_)
    refine lv_aload_n hx hb dX0_init_55 rfl (lv_at hl 1 rfl) ?_
    refine h_getr (j := i) (k := 1) (i := i + 82) C hH ⟨by omega, by omega⟩ (hd 0 _ rfl) (by decide) rfl (show 1 < 5 by decide) rfl (by decide) (by show mA _ _ _ _ _ _ = false; rw [mA_i (by omega)]; decide) rfl wd_358 dX0_init_56 ?_
    refine lv_iload_n hx hb dX0_init_59 rfl (lv_at hl 0 rfl) ?_
    refine k_new (N' := ch (i + 83 + 2 * n) (mA i [2] (i + 82) n)) (ty := tyX7) (r := (RX7, TX7, 5)) C hH hS (by omega) (lay_h2 hd hn2 0 _ rfl) (by decide) rfl tyX7_ok (by decide +kernel) (fun k => ch_eq) (fun j k hj => ch_ne (by omega)) wd_354 wd_317 wd_107 (by omega) (by show _ + 5 ≤ _; omega) dX0_init_60 (fun H hH hS => ?_)
    refine lv_dup hx hb dX0_init_63 rfl ?_
    refine k_init (as := []) (rest := [.ref (B + (i + 83 + 2 * n)), .int (nI n), .ref (B + (i + 82))]) (N' := mA i [2] (i + 82) n) (i_X7 hE (lay_h2 hd hn2) (f7 _ _)) hok (Cx.ofk hok C) hl.1 (by omega) hH (fun k => ch_eq) (fun j k hj => (ch_ne (by omega)).symm) (fun j k hj => mA_o (by omega) (by omega)) hS rfl mw_X7_init rfl wd_319 wd_356 rfl ⟨by omega, by omega⟩ (Nat.le_of_ble_eq_true rfl) ⟨by omega, by show _ + 5 + 42 ≤ _; omega⟩ dX0_init_64 (fun H locs hH hS => ?_)
    have hcl : (nI n).toNatClampNeg = n := nI_clamp (by omega)
    rw [show i + 83 + 2 * n = i + 82 + 1 + 2 * (nI n).toNatClampNeg by rw [hcl]]
    refine k_aast (N' := mA i [2] (i + 82) (n + 1)) (j := i + 82) (n := 3) (Cx.ofk hok C) hE hH hS ⟨by omega, by omega⟩ (hd 82 _ rfl) (by unfold ix; rw [hcl]; simp [nI_pos' (show n < 2 ^ 31 by omega), hn2]) ⟨by rw [hcl]; omega, by rw [hcl]; omega⟩ (by rw [hcl, show i + 82 + 1 + 2 * n = i + 83 + 2 * n + 0 by omega]; exact lay_h2 hd hn2 0 _ rfl) (fun x y => ?_) dX0_init_67 (fun H locs hH hS => ?_)
    · rw [hcl]
      by_cases e1 : x = i + 82
      · subst e1
        rw [mA_a (by omega), mA_a (by omega)]
        by_cases e2 : y = n
        · subst e2; simp
        · simp only [e2, and_false, if_false]
          congr 1
          apply propext
          omega
      · simp only [e1, false_and, if_false, mA]
        have : (x == i + 82) = false := by simp [e1]
        rw [this]; simp
    refine lv_iinc (v := nI (n + 1)) (lv' := [(1, .int (nI (n + 1))), (0, .ref (B + i))]) hx hb dX0_init_68 hl (k := 0) rfl (nI_1 n) (by decide) rfl (fun ls hl => ?_)
    refine lv_goto (tgt := 50) hx hb dX0_init_71 (by decide) ?_
    refine W.cs (cells' := ce + 2 * (n + 1)) (slots' := sl + 47 * (n + 1)) (by omega) (by show sl + 47 * n + 5 + 42 = _; omega) ?_
    exact ih (n + 1) H locs ls (by omega) hl hH hS
end HI
set_option maxHeartbeats 8000000 in
set_option maxRecDepth 100000 in
theorem i_X0 {l : Launch} {G : GG} {DS : List (Nat × Nat)} {B i : Nat} {E : State → Prop} {μ μo : Mem} (hE : ∀ U, E U → KX G U) (hd : ∀ r x, LHistory[r]? = some x → DS[i + r]? = some x) (h : fX0_init i μ = some μo) : Ini l yX0_init cX0_init 2 4 89 2067 G DS B i 90 E [] μ μo := by
  cases h
  refine ini_of (by decide) rfl (Nat.le_of_ble_eq_true rfl) (fun p e s m args below meth c ls C hr hlk hin2 hok hl hH hS => ?_)
  have hx := C.1
  have hb := C.2.1
  have hH := hH.ent (Rem := [0, 1, 2]) (hd 0 _ rfl) (by decide) (ft_rem (by decide +kernel) (by decide +kernel))
  have hH : Hd (ωk G DS B i (i + 1) E (mA i [0, 1, 2] (i + 1) 0)) μ s.heap := hH.msk (fun j t n k h1 h2 h3 => by
    have : j = i := by omega
    subst this
    have e1 : mA j [0, 1, 2] (j + 1) 0 j k = nf j [0, 1, 2] j k := by rw [mA_i (by omega)]; simp [nf]
    exact ⟨fun _ => e1, fun _ => e1⟩)
  have hS : FS (ωk G DS B i (i + 1) E (mA i [0, 1, 2] (i + 1) 0)) s s.heap [] := hS
  have C : Cx (ωk G DS B i (i + 1) E (mA i [0, 1, 2] (i + 1) 0)) p s m args c cX0_init 2 RX0 := Cx.ofk hok C
  refine lv_aload_n hx hb dX0_init_0 rfl (lv_at hl 0 rfl) ?_
  refine k_obj (rest := []) C hl.1 wd_353 (Nat.le_of_ble_eq_true rfl) (Nat.le_of_ble_eq_true rfl) dX0_init_1 ?_
  refine lv_aload_n hx hb dX0_init_4 rfl (lv_at hl 0 rfl) ?_
  refine lv_bipush (v := 40) hx hb dX0_init_5 (by decide) ?_
  refine k_newq (rest := [.ref (B + i)]) hE C hH hS (by omega) (hd 1 _ rfl) wd_354 (fun k => by rw [mA_a (by omega)]; simp) (by decide) (by decide) (by decide) (by simp only [rmc]; omega) (by simp only [rmc]; omega) dX0_init_7 (fun H hH hS => ?_)
  refine k_put hin2 (N' := mA i [1, 2] (i + 1) 0) (k := 0) (v := .ref (B + (i + 1))) (ty := tyX0 0) (rest := []) (Cx.ofk hok C) hH hS ⟨Nat.le_refl _, by omega⟩ (hd 0 _ rfl) (by decide) rfl (show 0 < 5 by decide) rfl wd_357 rfl rfl rfl (fun _ _ => ⟨rfl, rfl⟩) (fun j hj x => by simp only [mA, nf_ne hj]) (fun x => mA_put (by omega) (by decide) (by decide)) dX0_init_10 (fun H locs hH hS => ?_)
  refine lv_iconst (v := 0) hx hb dX0_init_13 (by decide) ?_
  refine lv_istore_n (lv' := [(1, .int 0), (0, .ref (B + i))]) hx hb dX0_init_14 rfl hl (by decide) rfl (fun ls hl => ?_)
  refine W.cs (cells' := 1 + 2 * 0) (slots' := 40 + 47 * 0) rfl rfl ?_
  refine w_h1 (μ := zr μ (i + 1)) hE hok hd (by decide) (by decide) (Cx.ofk hok C) (ce := 1) (sl := 40) (by simp only [rmc]; omega) (by simp only [rmc]; omega) (fun H locs ls hl hH hS => ?_) 40 0 H locs ls rfl hl hH hS
  have hH : Hd (ωk G DS B i (i + 82) E (mA i [1, 2] (i + 82) 0)) (mkS (i + 2) 40 (zr μ (i + 1))) H := hH.msk (fun j t n k h1 h2 h3 => by
    by_cases e1 : j = i
    · subst e1
      have e2 : mA j [1, 2] (j + 82) 0 j k = mA j [1, 2] (j + 1) 40 j k := by rw [mA_i (by omega), mA_i (by omega)]
      exact ⟨fun _ => e2, fun _ => e2⟩
    · by_cases e3 : j = i + 1
      · subst e3
        have h4 : DS[i + 1]? = some (104, 40) := hd 1 _ rfl
        cases h4.symm.trans h3
        refine ⟨fun z => absurd z (by decide), fun z => ?_⟩
        rw [mA_o (by omega) (by omega), mA_a (by omega)]
        simp; omega
      · have e2 : mA i [1, 2] (i + 82) 0 j k = mA i [1, 2] (i + 1) 40 j k := by rw [mA_o e1 (by omega), mA_o e1 e3]
        exact ⟨fun _ => e2, fun _ => e2⟩)
  have hS : FS (ωk G DS B i (i + 82) E (mA i [1, 2] (i + 82) 0)) s H locs := hS
  have C : Cx (ωk G DS B i (i + 82) E (mA i [1, 2] (i + 82) 0)) p s m args c cX0_init 2 RX0 := Cx.ofk hok C
  refine lv_aload_n hx hb dX0_init_40 rfl (lv_at hl 1 rfl) ?_
  refine lv_iconst (v := 3) hx hb dX0_init_41 (by decide) ?_
  refine k_newq (rest := [.ref (B + i)]) hE C hH hS (by omega) (hd 82 _ rfl) wd_354 (fun k => by rw [mA_a (by omega)]; simp) (by decide) (by decide) (by decide) (by simp only [rmc]; omega) (by simp only [rmc]; omega) dX0_init_42 (fun H hH hS => ?_)
  refine k_put hin2 (N' := mA i [2] (i + 82) 0) (k := 1) (v := .ref (B + (i + 82))) (ty := tyX0 1) (rest := []) (Cx.ofk hok C) hH hS ⟨Nat.le_refl _, by omega⟩ (hd 0 _ rfl) (by decide) rfl (show 1 < 5 by decide) rfl wd_358 rfl rfl rfl (fun _ _ => ⟨rfl, rfl⟩) (fun j hj x => by simp only [mA, nf_ne hj]) (fun x => mA_put (by omega) (by decide) (by decide)) dX0_init_45 (fun H locs hH hS => ?_)
  refine lv_iconst (v := 0) hx hb dX0_init_48 (by decide) ?_
  refine lv_istore_n (lv' := [(1, .int 0), (0, .ref (B + i))]) hx hb dX0_init_49 rfl hl (by decide) rfl (fun ls hl => ?_)
  refine W.cs (cells' := 82 + 2 * 0) (slots' := 1923 + 47 * 0) rfl rfl ?_
  refine w_h2 (μ := zr (mkS (i + 2) 40 (zr μ (i + 1))) (i + 82)) hE hok hd (by decide) (by decide) (Cx.ofk hok C) (ce := 82) (sl := 1923) (by simp only [rmc]; omega) (by simp only [rmc]; omega) (fun H locs ls hl hH hS => ?_) 3 0 H locs ls rfl hl hH hS
  have hH : Hd (ωk G DS B i (i + 89) E (nf i [2])) (mkS (i + 83) 3 (zr (mkS (i + 2) 40 (zr μ (i + 1))) (i + 82))) H := hH.msk (fun j t n k h1 h2 h3 => by
    by_cases e1 : j = i
    · subst e1
      have e2 : nf j [2] j k = mA j [2] (j + 82) 3 j k := by rw [mA_i (by omega)]; simp [nf]
      exact ⟨fun _ => e2, fun _ => e2⟩
    · by_cases e3 : j = i + 82
      · subst e3
        have h4 : DS[i + 82]? = some (104, 3) := hd 82 _ rfl
        cases h4.symm.trans h3
        refine ⟨fun z => absurd z (by decide), fun z => ?_⟩
        rw [nf_ne (by omega), mA_a (by omega)]
        simp; omega
      · have e2 : nf i [2] j k = mA i [2] (i + 82) 3 j k := by rw [nf_ne e1, mA_o e1 e3]
        exact ⟨fun _ => e2, fun _ => e2⟩)
  have hS : FS (ωk G DS B i (i + 89) E (nf i [2])) s H locs := hS
  have C : Cx (ωk G DS B i (i + 89) E (nf i [2])) p s m args c cX0_init 2 RX0 := Cx.ofk hok C
  refine lv_aload_n hx hb dX0_init_74 rfl (lv_at hl 1 rfl) ?_
  refine lv_iconst (v := 3) hx hb dX0_init_75 (by decide) ?_
  refine k_newa (atype := .boolean) (rest := [.ref (B + i)]) hE C hH hS (by omega) (hd 89 _ rfl) rfl (by decide) (by decide) wd_374 (by decide) (by decide) (by decide) (by simp only [rmc]; omega) (by simp only [rmc]; omega) dX0_init_76 (fun H hH hS => ?_)
  refine k_putr hin2 (k := 2) (Rem := []) (ty := tyX0 2) (rest := []) (Cx.ofk hok C) hH hS (hd 0 _ rfl) (by decide) rfl (show 2 < 5 by decide) rfl wd_359 rfl rfl rfl (by decide) rfl (by decide) (by omega) dX0_init_78 (fun H locs hH hS => ?_)
  exact k_ret (len := 90) (Cx.ofk hok C) hr hlk hH hS (by first | rfl | omega) (fun j k => nf_nil) (by first | rfl | omega) (by first | rfl | omega) dX0_init_81
