theorem dX8_init_0 : decode cX8_init 0 = .ok (.aload_n 0, 1) := by decide +kernel
theorem dX8_init_1 : decode cX8_init 1 = .ok (.invokespecial 3, 3) := by decide +kernel
theorem dX8_init_4 : decode cX8_init 4 = .ok (.aload_n 0, 1) := by decide +kernel
theorem dX8_init_5 : decode cX8_init 5 = .ok (.bipush 21, 2) := by decide +kernel
theorem dX8_init_7 : decode cX8_init 7 = .ok (.newarray .long, 2) := by decide +kernel
theorem dX8_init_9 : decode cX8_init 9 = .ok (.putfield 11, 3) := by decide +kernel
theorem dX8_init_12 : decode cX8_init 12 = .ok (.iconst 0, 1) := by decide +kernel
theorem dX8_init_13 : decode cX8_init 13 = .ok (.istore_n 1, 1) := by decide +kernel
theorem dX8_init_14 : decode cX8_init 14 = .ok (.iconst 0, 1) := by decide +kernel
theorem dX8_init_15 : decode cX8_init 15 = .ok (.istore_n 2, 1) := by decide +kernel
theorem dX8_init_16 : decode cX8_init 16 = .ok (.iload_n 2, 1) := by decide +kernel
theorem dX8_init_17 : decode cX8_init 17 = .ok (.ldc 15, 2) := by decide +kernel
theorem dX8_init_19 : decode cX8_init 19 = .ok (.invokevirtual 17, 3) := by decide +kernel
theorem dX8_init_22 : decode cX8_init 22 = .ok (.if_icmp .ge 61, 3) := by decide +kernel
theorem dX8_init_25 : decode cX8_init 25 = .ok (.iload_n 1, 1) := by decide +kernel
theorem dX8_init_26 : decode cX8_init 26 = .ok (.bipush 21, 2) := by decide +kernel
theorem dX8_init_28 : decode cX8_init 28 = .ok (.if_icmp .ge 55, 3) := by decide +kernel
theorem dX8_init_31 : decode cX8_init 31 = .ok (.ldc 15, 2) := by decide +kernel
theorem dX8_init_33 : decode cX8_init 33 = .ok (.iload_n 2, 1) := by decide +kernel
theorem dX8_init_34 : decode cX8_init 34 = .ok (.invokevirtual 23, 3) := by decide +kernel
theorem dX8_init_37 : decode cX8_init 37 = .ok (.bipush 32, 2) := by decide +kernel
theorem dX8_init_39 : decode cX8_init 39 = .ok (.if_icmp .ne 9, 3) := by decide +kernel
theorem dX8_init_42 : decode cX8_init 42 = .ok (.iinc 1 1, 3) := by decide +kernel
theorem dX8_init_45 : decode cX8_init 45 = .ok (.goto 32, 3) := by decide +kernel
theorem dX8_init_48 : decode cX8_init 48 = .ok (.aload_n 0, 1) := by decide +kernel
theorem dX8_init_49 : decode cX8_init 49 = .ok (.getfield 11, 3) := by decide +kernel
theorem dX8_init_52 : decode cX8_init 52 = .ok (.iload_n 1, 1) := by decide +kernel
theorem dX8_init_53 : decode cX8_init 53 = .ok (.aload_n 0, 1) := by decide +kernel
theorem dX8_init_54 : decode cX8_init 54 = .ok (.getfield 11, 3) := by decide +kernel
theorem dX8_init_57 : decode cX8_init 57 = .ok (.iload_n 1, 1) := by decide +kernel
theorem dX8_init_58 : decode cX8_init 58 = .ok (.laload, 1) := by decide +kernel
theorem dX8_init_59 : decode cX8_init 59 = .ok (.ldc2_w 27, 3) := by decide +kernel
theorem dX8_init_62 : decode cX8_init 62 = .ok (.lmul, 1) := by decide +kernel
theorem dX8_init_63 : decode cX8_init 63 = .ok (.ldc 15, 2) := by decide +kernel
theorem dX8_init_65 : decode cX8_init 65 = .ok (.iload_n 2, 1) := by decide +kernel
theorem dX8_init_66 : decode cX8_init 66 = .ok (.invokevirtual 23, 3) := by decide +kernel
theorem dX8_init_69 : decode cX8_init 69 = .ok (.bipush 97, 2) := by decide +kernel
theorem dX8_init_71 : decode cX8_init 71 = .ok (.isub, 1) := by decide +kernel
theorem dX8_init_72 : decode cX8_init 72 = .ok (.iconst 1, 1) := by decide +kernel
theorem dX8_init_73 : decode cX8_init 73 = .ok (.iadd, 1) := by decide +kernel
theorem dX8_init_74 : decode cX8_init 74 = .ok (.i2l, 1) := by decide +kernel
theorem dX8_init_75 : decode cX8_init 75 = .ok (.ladd, 1) := by decide +kernel
theorem dX8_init_76 : decode cX8_init 76 = .ok (.lastore, 1) := by decide +kernel
theorem dX8_init_77 : decode cX8_init 77 = .ok (.iinc 2 1, 3) := by decide +kernel
theorem dX8_init_80 : decode cX8_init 80 = .ok (.goto (-64), 3) := by decide +kernel
theorem dX8_init_83 : decode cX8_init 83 = .ok (.aload_n 0, 1) := by decide +kernel
theorem dX8_init_84 : decode cX8_init 84 = .ok (.sipush 401, 3) := by decide +kernel
theorem dX8_init_87 : decode cX8_init 87 = .ok (.newarray .int, 2) := by decide +kernel
theorem dX8_init_89 : decode cX8_init 89 = .ok (.putfield 29, 3) := by decide +kernel
theorem dX8_init_92 : decode cX8_init 92 = .ok (.aload_n 0, 1) := by decide +kernel
theorem dX8_init_93 : decode cX8_init 93 = .ok (.sipush 401, 3) := by decide +kernel
theorem dX8_init_96 : decode cX8_init 96 = .ok (.newarray .long, 2) := by decide +kernel
theorem dX8_init_98 : decode cX8_init 98 = .ok (.putfield 33, 3) := by decide +kernel
theorem dX8_init_101 : decode cX8_init 101 = .ok (.aload_n 0, 1) := by decide +kernel
theorem dX8_init_102 : decode cX8_init 102 = .ok (.sipush 401, 3) := by decide +kernel
theorem dX8_init_105 : decode cX8_init 105 = .ok (.newarray .int, 2) := by decide +kernel
theorem dX8_init_107 : decode cX8_init 107 = .ok (.putfield 36, 3) := by decide +kernel
theorem dX8_init_110 : decode cX8_init 110 = .ok (.return_, 1) := by decide +kernel
theorem va_Z.nar {C n d : String} {v : Value} {A A' : Nat → Prop} {U : State} {H : Heap} (h : va_Z C n d v A U H) (hAB : ∀ q, A' q → A q) : va_Z C n d v A' U H := h.narrow hAB
theorem EF.nar {X : Nat → Nat} {A A' : Nat → Prop} {U : State} (h : EF X A U) (hAB : ∀ q, A' q → A q) : EF X A' U :=
  ⟨⟨h.1.1.narrow hAB, h.1.2.narrow hAB⟩, ⟨h.2.1.1.narrow hAB, h.2.1.2.narrow hAB⟩, ⟨h.2.2.1.1.narrow hAB, h.2.2.1.2.narrow hAB⟩, h.2.2.2.1, h.2.2.2.2.1.narrow hAB, h.2.2.2.2.2.1.narrow hAB, h.2.2.2.2.2.2.narrow hAB⟩
def tkL (i : Nat) : Nat → Nat → Nat → Mem → Mem
  | 0, _, _, μ => μ
  | n + 1, w, k, μ => if 21 ≤ w then μ else if scc 0 k = 32 then tkL i n (w + 1) (k + 1) μ else tkL i n w (k + 1) (upL μ (i + 1) w ((μ.2 (i + 1) w) * 27 + ((scc 0 k - 97) + 1).toInt64))
def fX8_init (i : Nat) (μ : Mem) : Option Mem := some (zr (zr (zr (tkL i 115 0 0 (zr μ (i + 1))) (i + 2)) (i + 3)) (i + 4))
section TI
variable {p : Program} {l : Launch} {e : Env} {s : State} {m : MethodId} {args : Array Value} {below : List Frame} {meth : Method} {c : Code} {Q : State → Prop}
variable {G : GG} {DS : List (Nat × Nat)} {B i : Nat} {E : State → Prop} {X : Nat → Nat}
theorem w_tk (hX : ∀ U, E U → EF X (fun q => B + i ≤ q) U) (hd : ∀ r x, LTokens[r]? = some x → DS[i + r]? = some x) {R : Room} (hRd : R = rmc 6 4 1224) (C : Cx (ωk G DS B i (i + 2) E (nf i [1, 2, 3])) p s m args c cX8_init 3 RX8) {ce sl : Nat} (hcs : ce ≤ 4 ∧ sl ≤ 1224) {μo : Mem}
    (kk : ∀ (H : Heap) (locs : List Loc) (ls : Array Slot), lv_has ls 3 [(0, .ref (B + i))] → Hd (ωk G DS B i (i + 2) E (nf i [1, 2, 3])) μo H → FS (ωk G DS B i (i + 2) E (nf i [1, 2, 3])) s H locs → W p l e R s m args below meth c H locs ce sl Q (F0 m 83 ls [])) :
    ∀ (n w k : Nat) (μ : Mem) (H : Heap) (locs : List Loc) (ls : Array Slot), k + n = 115 → w ≤ 21 → lv_has ls 3 [(2, .int (nI k)), (1, .int (nI w)), (0, .ref (B + i))] → Hd (ωk G DS B i (i + 2) E (nf i [1, 2, 3])) μ H → FS (ωk G DS B i (i + 2) E (nf i [1, 2, 3])) s H locs → tkL i n w k μ = μo → W p l e R s m args below meth c H locs ce sl Q (F0 m 16 ls []) := by
  subst hRd
  have hx := C.1
  have hb := C.2.1
  have hE := hX s C.2.2.2.2.2.2.1
  have hR1 : ∀ {d ny : Nat}, d + 1 ≤ 6 → ny ≤ 45 → d + 1 ≤ (rmc 6 4 1224).frames ∧ 8 + (ny + 11) + 64 * d ≤ (rmc 6 4 1224).locals := fun h1 h2 => rmc_ok h1 h2
  have hcs2 : ce ≤ (rmc 6 4 1224).cells ∧ sl ≤ (rmc 6 4 1224).slots := hcs
  have top : ∀ (k : Nat) (H : Heap) (locs : List Loc) (ls : Array Slot) (μ : Mem), lv_has ls 3 [(2, .int (nI k)), (0, .ref (B + i))] → Hd (ωk G DS B i (i + 2) E (nf i [1, 2, 3])) μ H → FS (ωk G DS B i (i + 2) E (nf i [1, 2, 3])) s H locs →
      (∀ (H : Heap) (locs : List Loc), Hd (ωk G DS B i (i + 2) E (nf i [1, 2, 3])) μ H → FS (ωk G DS B i (i + 2) E (nf i [1, 2, 3])) s H locs → W p l e (rmc 6 4 1224) s m args below meth c H locs ce sl Q (F0 m 22 ls [.int (nI 115), .int (nI k)])) → W p l e (rmc 6 4 1224) s m args below meth c H locs ce sl Q (F0 m 16 ls []) := by
    intro k H locs ls μ hl hH hS kk2
    refine lv_iload_n hx hb dX8_init_16 rfl (lv_at hl 0 rfl) ?_
    refine va_ldcS hx hb C.2.2.2.1 hE.2.2.2.1.1 dX8_init_17 ?_
    refine h_callX (as := []) (rest := [.int (nI k)]) (c_length (ω := ωk G DS B i (i + 2) E (nf i [1, 2, 3])) hX (k := 0) (by decide)) C hl.1 hH hS rfl (x_rcv hE (k := 0) (by decide) hS) wd_142 wd_141 mw_J0_length_8abf5 wd_140 rfl (hR1 (by decide) (by decide)) (Nat.le_of_ble_eq_true rfl) hcs2 dX8_init_19 (fun H locs hH hS => ?_)
    exact kk2 H locs hH hS
  have chr : ∀ (k pc : Nat) (H : Heap) (locs : List Loc) (ls : Array Slot) (μ : Mem) (rest : List Value), k < 115 → (rest.map fun v => v.category).sum ≤ 8 → lv_has ls 3 [(2, .int (nI k)), (0, .ref (B + i))] → Hd (ωk G DS B i (i + 2) E (nf i [1, 2, 3])) μ H → FS (ωk G DS B i (i + 2) E (nf i [1, 2, 3])) s H locs → decode cX8_init pc = .ok (.ldc 15, 2) → decode cX8_init (pc + 2) = .ok (.iload_n 2, 1) → decode cX8_init (pc + 2 + 1) = .ok (.invokevirtual 23, 3) →
      (∀ (H : Heap) (locs : List Loc), Hd (ωk G DS B i (i + 2) E (nf i [1, 2, 3])) μ H → FS (ωk G DS B i (i + 2) E (nf i [1, 2, 3])) s H locs → W p l e (rmc 6 4 1224) s m args below meth c H locs ce sl Q (F0 m (pc + 2 + 1 + 3) ls (.int (scc 0 k) :: rest))) → W p l e (rmc 6 4 1224) s m args below meth c H locs ce sl Q (F0 m pc ls rest) := by
    intro k pc H locs ls μ rest hk hrest hl hH hS d1 d2 d3 kk2
    refine va_ldcS hx hb C.2.2.2.1 hE.2.2.2.1.1 d1 ?_
    refine lv_iload_n hx hb d2 rfl (lv_at hl 0 rfl) ?_
    refine h_callX (as := [.int (nI k)]) (rest := rest) (c_charAt (ω := ωk G DS B i (i + 2) E (nf i [1, 2, 3])) hX (k := 0) (by decide) hk) C hl.1 hH hS rfl (x_rcv hE (k := 0) (by decide) hS) wd_152 wd_151 mw_J0_charAt_5068e wd_150 rfl (hR1 (by decide) (by decide)) hrest hcs2 d3 (fun H locs hH hS => ?_)
    exact kk2 H locs hH hS
  intro n
  induction n with
  | zero =>
    intro w k μ H locs ls hn hw hl hH hS he
    have : k = 115 := by omega
    subst this
    refine top 115 H locs ls μ (lv_sub hl [0, 2] rfl) hH hS (fun H locs hH hS => ?_)
    exact lv_icmp_ge (tgt := 83) hx hb dX8_init_22 (by decide) (fun hc => kk H locs ls (lv_sub hl [2] rfl) (he ▸ hH) hS) (fun hc => absurd (by decide) hc)
  | succ n ih =>
    intro w k μ H locs ls hn hw hl hH hS he
    have hk : k < 115 := by omega
    rw [tkL] at he
    refine top k H locs ls μ (lv_sub hl [0, 2] rfl) hH hS (fun H locs hH hS => ?_)
    refine lv_icmp_ge (tgt := 83) hx hb dX8_init_22 (by decide) (fun hc => absurd hc (nI_ge hk (by decide))) (fun hc => ?_)
    refine lv_iload_n hx hb dX8_init_25 rfl (lv_at hl 1 rfl) ?_
    refine lv_bipush (v := nI 21) hx hb dX8_init_26 (by decide) ?_
    by_cases hw2 : 21 ≤ w
    · rw [if_pos hw2] at he
      have : w = 21 := by omega
      subst this
      exact lv_icmp_ge (tgt := 83) hx hb dX8_init_28 (by decide) (fun hc => kk H locs ls (lv_sub hl [2] rfl) (he ▸ hH) hS) (fun hc => absurd (by decide) hc)
    · rw [if_neg hw2] at he
      refine lv_icmp_ge (tgt := 83) hx hb dX8_init_28 (by decide) (fun hc => absurd hc (nI_ge (by omega) (by decide))) (fun hc => ?_)
      refine chr k 31 H locs ls μ [] hk (by decide) (lv_sub hl [0, 2] rfl) hH hS dX8_init_31 dX8_init_33 dX8_init_34 (fun H locs hH hS => ?_)
      refine lv_bipush (v := 32) hx hb dX8_init_37 (by decide) ?_
      refine lv_icmp_ne (tgt := 48) hx hb dX8_init_39 (by decide) (fun hc => ?_) (fun hc => ?_)
      · rw [if_neg hc] at he
        have hixw : ix (nI w) 21 = true := by unfold ix; rw [nI_clamp (by omega)]; simp [nI_pos' (show w < 2 ^ 31 by omega)]; omega
        refine lv_aload_n hx hb dX8_init_48 rfl (lv_at hl 2 rfl) ?_
        refine h_getr (j := i) (k := 0) (i := i + 1) C hH ⟨by omega, by omega⟩ (hd 0 _ rfl) (by decide) rfl (show 0 < 5 by decide) rfl (by decide) (by show nf _ _ _ _ = false; simp [nf]) rfl wd_189 dX8_init_49 ?_
        refine lv_iload_n hx hb dX8_init_52 rfl (lv_at hl 1 rfl) ?_
        refine lv_aload_n hx hb dX8_init_53 rfl (lv_at hl 2 rfl) ?_
        refine h_getr (j := i) (k := 0) (i := i + 1) C hH ⟨by omega, by omega⟩ (hd 0 _ rfl) (by decide) rfl (show 0 < 5 by decide) rfl (by decide) (by show nf _ _ _ _ = false; simp [nf]) rfl wd_189 dX8_init_54 ?_
        refine lv_iload_n hx hb dX8_init_57 rfl (lv_at hl 1 rfl) ?_
        refine h_lald (j := i + 1) C hH ⟨by omega, by omega⟩ (hd 1 _ rfl) hixw dX8_init_58 ?_
        refine lv_ldc2 (v := 27) hx hb C.2.2.2.1 (C.2.2.2.2.1 _ (tg wd_188 rfl)) dX8_init_59 ?_
        refine lv_lmul hx hb dX8_init_62 ?_
        refine chr k 63 H locs ls μ _ hk (Nat.le_of_ble_eq_true rfl) (lv_sub hl [0, 2] rfl) hH hS dX8_init_63 dX8_init_65 dX8_init_66 (fun H locs hH hS => ?_)
        refine lv_bipush (v := 97) hx hb dX8_init_69 (by decide) ?_
        refine lv_isub hx hb dX8_init_71 ?_
        refine lv_iconst (v := 1) hx hb dX8_init_72 (by decide) ?_
        refine lv_iadd hx hb dX8_init_73 ?_
        refine lv_i2l (v := ((scc 0 k - 97) + 1).toInt64) hx hb dX8_init_74 rfl ?_
        refine lv_ladd hx hb dX8_init_75 ?_
        refine h_last (j := i + 1) C hH hS ⟨by omega, by omega⟩ (hd 1 _ rfl) hixw dX8_init_76 (fun H locs hH hS => ?_)
        rw [nI_clamp (show w < 2 ^ 31 by omega)] at hH
        refine lv_iinc (v := nI (k + 1)) (lv' := [(2, .int (nI (k + 1))), (1, .int (nI w)), (0, .ref (B + i))]) hx hb dX8_init_77 hl (k := 0) rfl (nI_1 k) (by decide) rfl (fun ls hl => ?_)
        refine lv_goto (tgt := 16) hx hb dX8_init_80 (by decide) ?_
        exact ih w (k + 1) _ H locs ls (by omega) hw hl hH hS he
      · rw [if_pos hc] at he
        refine lv_iinc (v := nI (w + 1)) (lv' := [(1, .int (nI (w + 1))), (2, .int (nI k)), (0, .ref (B + i))]) hx hb dX8_init_42 hl (k := 1) rfl (nI_1 w) (by decide) rfl (fun ls hl => ?_)
        refine lv_goto (tgt := 77) hx hb dX8_init_45 (by decide) ?_
        refine lv_iinc (v := nI (k + 1)) (lv' := [(2, .int (nI (k + 1))), (1, .int (nI (w + 1))), (0, .ref (B + i))]) hx hb dX8_init_77 hl (k := 1) rfl (nI_1 k) (by decide) rfl (fun ls hl => ?_)
        refine lv_goto (tgt := 16) hx hb dX8_init_80 (by decide) ?_
        exact ih (w + 1) (k + 1) _ H locs ls (by omega) (by omega) hl hH hS he
end TI
set_option maxHeartbeats 8000000 in
set_option maxRecDepth 100000 in
theorem i_X8 {l : Launch} {G : GG} {DS : List (Nat × Nat)} {B i : Nat} {E : State → Prop} {μ μo : Mem} (hE : ∀ U, E U → KX G U) {X : Nat → Nat} (hEX : ∀ U, E U → EF X (fun q => B + i ≤ q) U) (hd : ∀ r x, LTokens[r]? = some x → DS[i + r]? = some x) (h : fX8_init i μ = some μo) : Ini l yX8_init cX8_init 3 6 4 1224 G DS B i 5 E [] μ μo := by
  cases h
  refine ini_of (by decide) rfl (Nat.le_of_ble_eq_true rfl) (fun p e s m args below meth c ls C hr hlk hin2 hok hl hH hS => ?_)
  have hx := C.1
  have hb := C.2.1
  have hX : ∀ U, E U → EF X (fun q => B + i ≤ q) U := hEX
  have hH := hH.ent (Rem := [0, 1, 2, 3]) (hd 0 _ rfl) (by decide) (ft_rem (by decide +kernel) (by decide +kernel))
  have hS : FS (ωk G DS B i (i + 1) E (nf i [0, 1, 2, 3])) s s.heap [] := hS
  have C : Cx (ωk G DS B i (i + 1) E (nf i [0, 1, 2, 3])) p s m args c cX8_init 3 RX8 := Cx.ofk hok C
  refine lv_aload_n hx hb dX8_init_0 rfl (lv_at hl 0 rfl) ?_
  refine k_obj (rest := []) C hl.1 wd_138 (Nat.le_of_ble_eq_true rfl) (Nat.le_of_ble_eq_true rfl) dX8_init_1 ?_
  refine lv_aload_n hx hb dX8_init_4 rfl (lv_at hl 0 rfl) ?_
  refine lv_bipush (v := 21) hx hb dX8_init_5 (by decide) ?_
  refine k_newa (atype := .long) (rest := [.ref (B + i)]) hE C hH hS (by omega) (hd 1 _ rfl) rfl (by decide) (by decide) wd_209 (by decide) (by decide) (by decide) (by simp only [rmc]; omega) (by simp only [rmc]; omega) dX8_init_7 (fun H hH hS => ?_)
  refine k_putr hin2 (k := 0) (Rem := [1, 2, 3]) (ty := tyX8 0) (rest := []) (Cx.ofk hok C) hH hS (hd 0 _ rfl) (by decide) rfl (show 0 < 5 by decide) rfl wd_189 rfl rfl rfl (by decide) rfl (by decide) (by omega) dX8_init_9 (fun H locs hH hS => ?_)
  refine lv_iconst (v := 0) hx hb dX8_init_12 (by decide) ?_
  refine lv_istore_n (lv' := [(1, .int 0), (0, .ref (B + i))]) hx hb dX8_init_13 rfl hl (by decide) rfl (fun ls hl => ?_)
  refine lv_iconst (v := 0) hx hb dX8_init_14 (by decide) ?_
  refine lv_istore_n (lv' := [(2, .int 0), (1, .int 0), (0, .ref (B + i))]) hx hb dX8_init_15 rfl hl (by decide) rfl (fun ls hl => ?_)
  refine w_tk (R := rmc 6 4 1224) hX hd rfl (Cx.ofk hok C) (by decide) (fun H locs ls hl hH hS => ?_) 115 0 0 (zr μ (i + 1)) H locs ls rfl (by decide) hl hH hS rfl

  refine lv_aload_n hx hb dX8_init_83 rfl (lv_at hl 0 rfl) ?_
  refine lv_sipush (v := 401) hx hb dX8_init_84 (by decide) ?_
  refine k_newa (atype := .int) (rest := [.ref (B + i)]) hE (Cx.ofk hok C) hH hS (by omega) (hd 2 _ rfl) rfl (by decide) (by decide) wd_210 (by decide) (by decide) (by decide) (by simp only [rmc]; omega) (by simp only [rmc]; omega) dX8_init_87 (fun H hH hS => ?_)
  refine k_putr hin2 (k := 1) (Rem := [2, 3]) (ty := tyX8 1) (rest := []) (Cx.ofk hok C) hH hS (hd 0 _ rfl) (by decide) rfl (show 1 < 5 by decide) rfl wd_190 rfl rfl rfl (by decide) rfl (by decide) (by omega) dX8_init_89 (fun H locs hH hS => ?_)
  refine lv_aload_n hx hb dX8_init_92 rfl (lv_at hl 0 rfl) ?_
  refine lv_sipush (v := 401) hx hb dX8_init_93 (by decide) ?_
  refine k_newa (atype := .long) (rest := [.ref (B + i)]) hE (Cx.ofk hok C) hH hS (by omega) (hd 3 _ rfl) rfl (by decide) (by decide) wd_209 (by decide) (by decide) (by decide) (by simp only [rmc]; omega) (by simp only [rmc]; omega) dX8_init_96 (fun H hH hS => ?_)
  refine k_putr hin2 (k := 2) (Rem := [3]) (ty := tyX8 2) (rest := []) (Cx.ofk hok C) hH hS (hd 0 _ rfl) (by decide) rfl (show 2 < 5 by decide) rfl wd_192 rfl rfl rfl (by decide) rfl (by decide) (by omega) dX8_init_98 (fun H locs hH hS => ?_)
  refine lv_aload_n hx hb dX8_init_101 rfl (lv_at hl 0 rfl) ?_
  refine lv_sipush (v := 401) hx hb dX8_init_102 (by decide) ?_
  refine k_newa (atype := .int) (rest := [.ref (B + i)]) hE (Cx.ofk hok C) hH hS (by omega) (hd 4 _ rfl) rfl (by decide) (by decide) wd_210 (by decide) (by decide) (by decide) (by simp only [rmc]; omega) (by simp only [rmc]; omega) dX8_init_105 (fun H hH hS => ?_)
  refine k_putr hin2 (k := 3) (Rem := []) (ty := tyX8 3) (rest := []) (Cx.ofk hok C) hH hS (hd 0 _ rfl) (by decide) rfl (show 3 < 5 by decide) rfl wd_194 rfl rfl rfl (by decide) rfl (by decide) (by omega) dX8_init_107 (fun H locs hH hS => ?_)
  exact k_ret (len := 5) (Cx.ofk hok C) hr hlk hH hS (by first | rfl | omega) (fun j k => nf_nil) (by first | rfl | omega) (by first | rfl | omega) dX8_init_110
