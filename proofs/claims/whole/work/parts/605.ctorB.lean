theorem dX4_init_0 : decode cX4_init 0 = .ok (.aload_n 0, 1) := by decide +kernel
theorem dX4_init_1 : decode cX4_init 1 = .ok (.invokespecial 3, 3) := by decide +kernel
theorem dX4_init_4 : decode cX4_init 4 = .ok (.aload_n 0, 1) := by decide +kernel
theorem dX4_init_5 : decode cX4_init 5 = .ok (.new 9, 3) := by decide +kernel
theorem dX4_init_8 : decode cX4_init 8 = .ok (.dup, 1) := by decide +kernel
theorem dX4_init_9 : decode cX4_init 9 = .ok (.invokespecial 11, 3) := by decide +kernel
theorem dX4_init_12 : decode cX4_init 12 = .ok (.putfield 12, 3) := by decide +kernel
theorem dX4_init_15 : decode cX4_init 15 = .ok (.aload_n 0, 1) := by decide +kernel
theorem dX4_init_16 : decode cX4_init 16 = .ok (.new 18, 3) := by decide +kernel
theorem dX4_init_19 : decode cX4_init 19 = .ok (.dup, 1) := by decide +kernel
theorem dX4_init_20 : decode cX4_init 20 = .ok (.invokespecial 20, 3) := by decide +kernel
theorem dX4_init_23 : decode cX4_init 23 = .ok (.putfield 21, 3) := by decide +kernel
theorem dX4_init_26 : decode cX4_init 26 = .ok (.aload_n 0, 1) := by decide +kernel
theorem dX4_init_27 : decode cX4_init 27 = .ok (.bipush 6, 2) := by decide +kernel
theorem dX4_init_29 : decode cX4_init 29 = .ok (.newarray .long, 2) := by decide +kernel
theorem dX4_init_31 : decode cX4_init 31 = .ok (.putfield 25, 3) := by decide +kernel
theorem dX4_init_34 : decode cX4_init 34 = .ok (.return_, 1) := by decide +kernel
def fX4_init (i : Nat) (μ : Mem) : Option Mem :=
  bd (zr μ (i + 1)) (fun μ1 => b1 (fX8_init (i + 1) μ1) (fun μ3 => bd (mg (i + 1) μ1 μ3) (fun μ5 => bd (zr μ5 (i + 6)) (fun μ7 => b1 (fX3_init (i + 6) μ7) (fun μ9 => bd (mg (i + 6) μ7 μ9) (fun μ11 => bd (zr μ11 (i + 13)) (fun μ13 => some μ13)))))))
set_option maxHeartbeats 8000000 in
set_option maxRecDepth 100000 in
theorem i_X4 {l : Launch} {G : GG} {DS : List (Nat × Nat)} {B i : Nat} {E : State → Prop} {μ μo : Mem} (hE : ∀ U, E U → KX G U) {X : Nat → Nat} (hEX : ∀ U, E U → EF X (fun q => B + i ≤ q) U) (hd : ∀ r x, LReader[r]? = some x → DS[i + r]? = some x) (h : fX4_init i μ = some μo) : Ini l yX4_init cX4_init 1 10 13 2145 G DS B i 14 E [] μ μo := by
  refine ini_of (by decide) rfl (Nat.le_of_ble_eq_true rfl) (fun p e s m args below meth c ls C hr hlk hin2 hok hl hH hS => ?_)
  have hx := C.1
  have hb := C.2.1
  unfold fX4_init at h
  have hH := hH.ent (Rem := [0, 1, 5]) (hd 0 _ rfl) (by decide) (ft_rem (by decide +kernel) (by decide +kernel))
  have hS : FS (ωk G DS B i (i + 1) E (nf i [0, 1, 5])) s s.heap [] := hS
  have C : Cx (ωk G DS B i (i + 1) E (nf i [0, 1, 5])) p s m args c cX4_init 1 RX4 := Cx.ofk hok C
  obtain ⟨H, hHs⟩ : ∃ H, H = s.heap := ⟨_, rfl⟩
  rw [← hHs] at hH ⊢
  obtain ⟨locs, hlocs⟩ : ∃ locs : List Loc, locs = [] := ⟨_, rfl⟩
  rw [← hlocs] at hS ⊢
  have hS : FS (ωk G DS B i (i + 1) E (nf i [0, 1, 5])) s H locs := by rw [hHs]; exact hS
  refine lv_aload_n hx hb dX4_init_0 rfl (lv_at hl 0 rfl) ?_
  refine k_obj (rest := []) C hl.1 wd_132 (Nat.le_of_ble_eq_true rfl) (Nat.le_of_ble_eq_true rfl) dX4_init_1 ?_
  refine lv_aload_n hx hb dX4_init_4 rfl (lv_at hl 0 rfl) ?_
  have hq := bd_e h; clear h; obtain ⟨μ1, e2, h⟩ := hq
  refine k_new (N' := ch (i + 1) (nf i [0, 1, 5])) (ty := tyX8) (r := (RX8, TX8, 5)) (rest := [.ref (B + i)]) C hH hS (by omega) (hd 1 _ rfl) (by decide) rfl tyX8_ok (by decide +kernel) (fun k => ch_eq) (fun j k hj => ch_ne (Nat.ne_of_lt hj)) wd_133 wd_134 wd_100 (by simp only [rmc]; omega) (by simp only [rmc]; omega) dX4_init_5 (fun H hH hS => ?_)
  replace hH : Hd (ωk G DS B i (i + 2) E (ch (i + 1) (nf i [0, 1, 5]))) μ1 H := Hd.to e2 hH
  refine lv_dup hx hb dX4_init_8 rfl ?_
  have hq := b1_e h; clear h; obtain ⟨μ3, e4, h⟩ := hq
  refine k_init (as := []) (rest := [.ref (B + (i + 1)), .ref (B + i)]) (N' := (nf i [0, 1, 5])) (i_X8 hE (fun U hU => (hEX U hU).nar (fun q hq => Nat.le_trans (Nat.add_le_add_left (by omega) B) hq)) (lay_sub (Lc := LTokens) 1 hd (by decide +kernel)) e4) hok (Cx.ofk hok C) hl.1 (by omega) hH (fun k => ch_eq) (fun j k hj => (ch_ne (Nat.ne_of_lt hj)).symm) (fun j k hj => nf_ne (Nat.ne_of_gt (Nat.lt_of_lt_of_le (by omega) hj))) hS rfl mw_X8_init rfl wd_136 wd_135 rfl (rmc_ok (by decide) (by decide)) (Nat.le_of_ble_eq_true rfl) ⟨by simp only [rmc]; omega, by simp only [rmc]; omega⟩ dX4_init_9 (fun H locs hH hS => ?_)
  have hq := bd_e h; clear h; obtain ⟨μ5, e6, h⟩ := hq
  replace hH : Hd (ωk G DS B i (i + 6) E (nf i [0, 1, 5])) μ5 H := Hd.to e6 hH
  replace hS : FS (ωk G DS B i (i + 6) E (nf i [0, 1, 5])) s H locs := hS
  replace C : Cx (ωk G DS B i (i + 6) E (nf i [0, 1, 5])) p s m args c cX4_init 1 RX4 := Cx.ofk hok C
  refine k_putr hin2 (k := 0) (Rem := [1, 5]) (ty := tyX4 0) (rest := []) C hH hS (hd 0 _ rfl) (by decide) rfl (show 0 < 6 by decide) rfl wd_293 rfl rfl rfl (by decide) rfl (by decide) (by omega) dX4_init_12 (fun H locs hH hS => ?_)
  replace hS : FS (ωk G DS B i (i + 6) E (nf i [1, 5])) s H locs := hS
  replace C : Cx (ωk G DS B i (i + 6) E (nf i [1, 5])) p s m args c cX4_init 1 RX4 := Cx.ofk hok C
  replace hH : Hd (ωk G DS B i (i + 6) E (nf i [1, 5])) μ5 H := hH
  refine lv_aload_n hx hb dX4_init_15 rfl (lv_at hl 0 rfl) ?_
  have hq := bd_e h; clear h; obtain ⟨μ7, e8, h⟩ := hq
  refine k_new (N' := ch (i + 6) (nf i [1, 5])) (ty := tyX3) (r := (RX3, TX3, 7)) (rest := [.ref (B + i)]) C hH hS (by omega) (hd 6 _ rfl) (by decide) rfl tyX3_ok (by decide +kernel) (fun k => ch_eq) (fun j k hj => ch_ne (Nat.ne_of_lt hj)) wd_211 wd_212 wd_105 (by simp only [rmc]; omega) (by simp only [rmc]; omega) dX4_init_16 (fun H hH hS => ?_)
  replace hH : Hd (ωk G DS B i (i + 7) E (ch (i + 6) (nf i [1, 5]))) μ7 H := Hd.to e8 hH
  refine lv_dup hx hb dX4_init_19 rfl ?_
  have hq := b1_e h; clear h; obtain ⟨μ9, e10, h⟩ := hq
  refine k_init (as := []) (rest := [.ref (B + (i + 6)), .ref (B + i)]) (N' := (nf i [1, 5])) (i_X3 hE (lay_sub (Lc := LQuarter) 6 hd (by decide +kernel)) e10) hok (Cx.ofk hok C) hl.1 (by omega) hH (fun k => ch_eq) (fun j k hj => (ch_ne (Nat.ne_of_lt hj)).symm) (fun j k hj => nf_ne (Nat.ne_of_gt (Nat.lt_of_lt_of_le (by omega) hj))) hS rfl mw_X3_init rfl wd_214 wd_213 rfl (rmc_ok (by decide) (by decide)) (Nat.le_of_ble_eq_true rfl) ⟨by simp only [rmc]; omega, by simp only [rmc]; omega⟩ dX4_init_20 (fun H locs hH hS => ?_)
  have hq := bd_e h; clear h; obtain ⟨μ11, e12, h⟩ := hq
  replace hH : Hd (ωk G DS B i (i + 13) E (nf i [1, 5])) μ11 H := Hd.to e12 hH
  replace hS : FS (ωk G DS B i (i + 13) E (nf i [1, 5])) s H locs := hS
  replace C : Cx (ωk G DS B i (i + 13) E (nf i [1, 5])) p s m args c cX4_init 1 RX4 := Cx.ofk hok C
  refine k_putr hin2 (k := 1) (Rem := [5]) (ty := tyX4 1) (rest := []) C hH hS (hd 0 _ rfl) (by decide) rfl (show 1 < 6 by decide) rfl wd_294 rfl rfl rfl (by decide) rfl (by decide) (by omega) dX4_init_23 (fun H locs hH hS => ?_)
  replace hS : FS (ωk G DS B i (i + 13) E (nf i [5])) s H locs := hS
  replace C : Cx (ωk G DS B i (i + 13) E (nf i [5])) p s m args c cX4_init 1 RX4 := Cx.ofk hok C
  replace hH : Hd (ωk G DS B i (i + 13) E (nf i [5])) μ11 H := hH
  refine lv_aload_n hx hb dX4_init_26 rfl (lv_at hl 0 rfl) ?_
  refine lv_bipush (v := 6) hx hb dX4_init_27 (by decide) ?_
  have hq := bd_e h; clear h; obtain ⟨μ13, e14, h⟩ := hq
  refine k_newa (atype := .long) (rest := [.ref (B + i)]) hE C hH hS (by omega) (hd 13 _ rfl) rfl (by decide) (by decide) wd_209 (by decide) (by decide) (by decide) (by simp only [rmc]; omega) (by simp only [rmc]; omega) dX4_init_29 (fun H hH hS => ?_)
  replace hH : Hd (ωk G DS B i (i + 14) E (nf i [5])) μ13 H := Hd.to e14 hH
  replace hS : FS (ωk G DS B i (i + 14) E (nf i [5])) s H locs := hS
  replace C : Cx (ωk G DS B i (i + 14) E (nf i [5])) p s m args c cX4_init 1 RX4 := Cx.ofk hok C
  refine k_putr hin2 (k := 5) (Rem := []) (ty := tyX4 5) (rest := []) C hH hS (hd 0 _ rfl) (by decide) rfl (show 5 < 6 by decide) rfl wd_296 rfl rfl rfl (by decide) rfl (by decide) (by omega) dX4_init_31 (fun H locs hH hS => ?_)
  replace hS : FS (ωk G DS B i (i + 14) E (nf i [])) s H locs := hS
  replace C : Cx (ωk G DS B i (i + 14) E (nf i [])) p s m args c cX4_init 1 RX4 := Cx.ofk hok C
  replace hH : Hd (ωk G DS B i (i + 14) E (nf i [])) μ13 H := hH
  cases h
  exact k_ret (len := 14) C hr hlk hH hS (by first | rfl | omega) (fun j k => nf_nil) (by first | rfl | omega) (by first | rfl | omega) dX4_init_34
theorem dX11_init_0 : decode cX11_init 0 = .ok (.aload_n 0, 1) := by decide +kernel
theorem dX11_init_1 : decode cX11_init 1 = .ok (.invokespecial 1, 3) := by decide +kernel
theorem dX11_init_4 : decode cX11_init 4 = .ok (.aload_n 0, 1) := by decide +kernel
theorem dX11_init_5 : decode cX11_init 5 = .ok (.sipush 2000, 3) := by decide +kernel
theorem dX11_init_8 : decode cX11_init 8 = .ok (.newarray .byte, 2) := by decide +kernel
theorem dX11_init_10 : decode cX11_init 10 = .ok (.putfield 9, 3) := by decide +kernel
theorem dX11_init_13 : decode cX11_init 13 = .ok (.aload_n 0, 1) := by decide +kernel
theorem dX11_init_14 : decode cX11_init 14 = .ok (.new 13, 3) := by decide +kernel
theorem dX11_init_17 : decode cX11_init 17 = .ok (.dup, 1) := by decide +kernel
theorem dX11_init_18 : decode cX11_init 18 = .ok (.invokespecial 15, 3) := by decide +kernel
theorem dX11_init_21 : decode cX11_init 21 = .ok (.putfield 16, 3) := by decide +kernel
theorem dX11_init_24 : decode cX11_init 24 = .ok (.aload_n 0, 1) := by decide +kernel
theorem dX11_init_25 : decode cX11_init 25 = .ok (.new 20, 3) := by decide +kernel
theorem dX11_init_28 : decode cX11_init 28 = .ok (.dup, 1) := by decide +kernel
theorem dX11_init_29 : decode cX11_init 29 = .ok (.invokespecial 22, 3) := by decide +kernel
theorem dX11_init_32 : decode cX11_init 32 = .ok (.putfield 23, 3) := by decide +kernel
theorem dX11_init_35 : decode cX11_init 35 = .ok (.aload_n 0, 1) := by decide +kernel
theorem dX11_init_36 : decode cX11_init 36 = .ok (.new 27, 3) := by decide +kernel
theorem dX11_init_39 : decode cX11_init 39 = .ok (.dup, 1) := by decide +kernel
theorem dX11_init_40 : decode cX11_init 40 = .ok (.invokespecial 29, 3) := by decide +kernel
theorem dX11_init_43 : decode cX11_init 43 = .ok (.putfield 30, 3) := by decide +kernel
theorem dX11_init_46 : decode cX11_init 46 = .ok (.aload_n 0, 1) := by decide +kernel
theorem dX11_init_47 : decode cX11_init 47 = .ok (.getfield 30, 3) := by decide +kernel
theorem dX11_init_50 : decode cX11_init 50 = .ok (.aload_n 0, 1) := by decide +kernel
theorem dX11_init_51 : decode cX11_init 51 = .ok (.getfield 23, 3) := by decide +kernel
theorem dX11_init_54 : decode cX11_init 54 = .ok (.getfield 34, 3) := by decide +kernel
theorem dX11_init_57 : decode cX11_init 57 = .ok (.putfield 38, 3) := by decide +kernel
theorem dX11_init_60 : decode cX11_init 60 = .ok (.aload_n 0, 1) := by decide +kernel
theorem dX11_init_61 : decode cX11_init 61 = .ok (.new 27, 3) := by decide +kernel
theorem dX11_init_64 : decode cX11_init 64 = .ok (.dup, 1) := by decide +kernel
theorem dX11_init_65 : decode cX11_init 65 = .ok (.invokespecial 29, 3) := by decide +kernel
theorem dX11_init_68 : decode cX11_init 68 = .ok (.putfield 39, 3) := by decide +kernel
theorem dX11_init_71 : decode cX11_init 71 = .ok (.aload_n 0, 1) := by decide +kernel
theorem dX11_init_72 : decode cX11_init 72 = .ok (.new 27, 3) := by decide +kernel
theorem dX11_init_75 : decode cX11_init 75 = .ok (.dup, 1) := by decide +kernel
theorem dX11_init_76 : decode cX11_init 76 = .ok (.invokespecial 29, 3) := by decide +kernel
theorem dX11_init_79 : decode cX11_init 79 = .ok (.putfield 42, 3) := by decide +kernel
theorem dX11_init_82 : decode cX11_init 82 = .ok (.aload_n 0, 1) := by decide +kernel
theorem dX11_init_83 : decode cX11_init 83 = .ok (.new 45, 3) := by decide +kernel
theorem dX11_init_86 : decode cX11_init 86 = .ok (.dup, 1) := by decide +kernel
theorem dX11_init_87 : decode cX11_init 87 = .ok (.invokespecial 47, 3) := by decide +kernel
theorem dX11_init_90 : decode cX11_init 90 = .ok (.putfield 48, 3) := by decide +kernel
theorem dX11_init_93 : decode cX11_init 93 = .ok (.aload_n 0, 1) := by decide +kernel
theorem dX11_init_94 : decode cX11_init 94 = .ok (.new 52, 3) := by decide +kernel
theorem dX11_init_97 : decode cX11_init 97 = .ok (.dup, 1) := by decide +kernel
theorem dX11_init_98 : decode cX11_init 98 = .ok (.bipush 30, 2) := by decide +kernel
theorem dX11_init_100 : decode cX11_init 100 = .ok (.invokespecial 54, 3) := by decide +kernel
theorem dX11_init_103 : decode cX11_init 103 = .ok (.putfield 57, 3) := by decide +kernel
theorem dX11_init_106 : decode cX11_init 106 = .ok (.aload_n 0, 1) := by decide +kernel
theorem dX11_init_107 : decode cX11_init 107 = .ok (.new 52, 3) := by decide +kernel
theorem dX11_init_110 : decode cX11_init 110 = .ok (.dup, 1) := by decide +kernel
theorem dX11_init_111 : decode cX11_init 111 = .ok (.bipush 10, 2) := by decide +kernel
theorem dX11_init_113 : decode cX11_init 113 = .ok (.invokespecial 54, 3) := by decide +kernel
theorem dX11_init_116 : decode cX11_init 116 = .ok (.putfield 61, 3) := by decide +kernel
theorem dX11_init_119 : decode cX11_init 119 = .ok (.aload_n 0, 1) := by decide +kernel
theorem dX11_init_120 : decode cX11_init 120 = .ok (.new 52, 3) := by decide +kernel
theorem dX11_init_123 : decode cX11_init 123 = .ok (.dup, 1) := by decide +kernel
theorem dX11_init_124 : decode cX11_init 124 = .ok (.bipush 10, 2) := by decide +kernel
theorem dX11_init_126 : decode cX11_init 126 = .ok (.invokespecial 54, 3) := by decide +kernel
theorem dX11_init_129 : decode cX11_init 129 = .ok (.putfield 64, 3) := by decide +kernel
theorem dX11_init_132 : decode cX11_init 132 = .ok (.aload_n 0, 1) := by decide +kernel
theorem dX11_init_133 : decode cX11_init 133 = .ok (.new 67, 3) := by decide +kernel
theorem dX11_init_136 : decode cX11_init 136 = .ok (.dup, 1) := by decide +kernel
theorem dX11_init_137 : decode cX11_init 137 = .ok (.invokespecial 69, 3) := by decide +kernel
theorem dX11_init_140 : decode cX11_init 140 = .ok (.putfield 70, 3) := by decide +kernel
theorem dX11_init_143 : decode cX11_init 143 = .ok (.aload_n 0, 1) := by decide +kernel
theorem dX11_init_144 : decode cX11_init 144 = .ok (.new 74, 3) := by decide +kernel
theorem dX11_init_147 : decode cX11_init 147 = .ok (.dup, 1) := by decide +kernel
theorem dX11_init_148 : decode cX11_init 148 = .ok (.invokespecial 76, 3) := by decide +kernel
theorem dX11_init_151 : decode cX11_init 151 = .ok (.putfield 77, 3) := by decide +kernel
theorem dX11_init_154 : decode cX11_init 154 = .ok (.aload_n 0, 1) := by decide +kernel
theorem dX11_init_155 : decode cX11_init 155 = .ok (.new 81, 3) := by decide +kernel
theorem dX11_init_158 : decode cX11_init 158 = .ok (.dup, 1) := by decide +kernel
theorem dX11_init_159 : decode cX11_init 159 = .ok (.invokespecial 83, 3) := by decide +kernel
theorem dX11_init_162 : decode cX11_init 162 = .ok (.putfield 84, 3) := by decide +kernel
theorem dX11_init_165 : decode cX11_init 165 = .ok (.aload_n 0, 1) := by decide +kernel
theorem dX11_init_166 : decode cX11_init 166 = .ok (.new 88, 3) := by decide +kernel
theorem dX11_init_169 : decode cX11_init 169 = .ok (.dup, 1) := by decide +kernel
theorem dX11_init_170 : decode cX11_init 170 = .ok (.invokespecial 90, 3) := by decide +kernel
theorem dX11_init_173 : decode cX11_init 173 = .ok (.putfield 91, 3) := by decide +kernel
theorem dX11_init_176 : decode cX11_init 176 = .ok (.aload_n 0, 1) := by decide +kernel
theorem dX11_init_177 : decode cX11_init 177 = .ok (.iconst 3, 1) := by decide +kernel
theorem dX11_init_178 : decode cX11_init 178 = .ok (.newarray .int, 2) := by decide +kernel
theorem dX11_init_180 : decode cX11_init 180 = .ok (.putfield 95, 3) := by decide +kernel
theorem dX11_init_183 : decode cX11_init 183 = .ok (.aload_n 0, 1) := by decide +kernel
theorem dX11_init_184 : decode cX11_init 184 = .ok (.iconst 0, 1) := by decide +kernel
theorem dX11_init_185 : decode cX11_init 185 = .ok (.putfield 99, 3) := by decide +kernel
theorem dX11_init_188 : decode cX11_init 188 = .ok (.aload_n 0, 1) := by decide +kernel
theorem dX11_init_189 : decode cX11_init 189 = .ok (.iconst (-1), 1) := by decide +kernel
theorem dX11_init_190 : decode cX11_init 190 = .ok (.putfield 102, 3) := by decide +kernel
theorem dX11_init_193 : decode cX11_init 193 = .ok (.return_, 1) := by decide +kernel
def fX11_init (μ : Mem) : Option Mem :=
  bd (zr μ 2) (fun μ1 => bd (zr μ1 3) (fun μ3 => b1 (fX4_init 3 μ3) (fun μ5 => bd (mg 3 μ3 μ5) (fun μ7 => bd (zr μ7 17) (fun μ9 => b1 (fX3_init 17 μ9) (fun μ11 => bd (mg 17 μ9 μ11) (fun μ13 => bd (zr μ13 24) (fun μ15 => b1 (fX7_init 24 μ15) (fun μ17 => bd (mg 24 μ15 μ17) (fun μ19 => bd (upI μ19 24 2 (μ19.1 17 3)) (fun μ21 => bd (zr μ21 26) (fun μ23 => b1 (fX7_init 26 μ23) (fun μ25 => bd (mg 26 μ23 μ25) (fun μ27 => bd (zr μ27 28) (fun μ29 => b1 (fX7_init 28 μ29) (fun μ31 => bd (mg 28 μ29 μ31) (fun μ33 => bd (zr μ33 30) (fun μ35 => b1 (fX0_init 30 μ35) (fun μ37 => bd (mg 30 μ35 μ37) (fun μ39 => bd (zr μ39 120) (fun μ41 => b1 (fX6_init 120 30 31 μ41) (fun μ43 => bd (mg 120 μ41 μ43) (fun μ45 => bd (zr μ45 139) (fun μ47 => b1 (fX6_init 139 10 11 μ47) (fun μ49 => bd (mg 139 μ47 μ49) (fun μ51 => bd (zr μ51 158) (fun μ53 => b1 (fX6_init 158 10 11 μ53) (fun μ55 => bd (mg 158 μ53 μ55) (fun μ57 => bd (zr μ57 177) (fun μ59 => b1 (fX10_init 177 μ59) (fun μ61 => bd (mg 177 μ59 μ61) (fun μ63 => bd (zr μ63 180) (fun μ65 => b1 (fX5_init 180 μ65) (fun μ67 => bd (mg 180 μ65 μ67) (fun μ69 => bd (zr μ69 183) (fun μ71 => b1 (fX2_init 183 μ71) (fun μ73 => bd (mg 183 μ71 μ73) (fun μ75 => bd (zr μ75 186) (fun μ77 => b1 (fX9_init 186 μ77) (fun μ79 => bd (mg 186 μ77 μ79) (fun μ81 => bd (zr μ81 190) (fun μ83 => bd (upI μ83 1 15 0) (fun μ85 => bd (upI μ85 1 16 (-1)) (fun μ87 => some μ87))))))))))))))))))))))))))))))))))))))))))))
set_option maxHeartbeats 8000000 in
set_option maxRecDepth 100000 in
theorem i_X11 {l : Launch} {G : GG} {B : Nat} {E : State → Prop} {μ μo : Mem} (hE : ∀ U, E U → KX G U) {X : Nat → Nat} (hEX : ∀ U, E U → EF X (fun q => B + 1 ≤ q) U) (h : fX11_init μ = some μo) : Ini l yX11_init cX11_init 1 12 189 8290 G DSC B 1 190 E [] μ μo := by
  refine ini_of (by decide) rfl (Nat.le_of_ble_eq_true rfl) (fun p e s m args below meth c ls C hr hlk hin2 hok hl hH hS => ?_)
  have hx := C.1
  have hb := C.2.1
  unfold fX11_init at h
  have hH := hH.ent (Rem := [0, 1, 2, 3, 4, 5, 6, 7, 8, 9, 10, 11, 12, 13, 14]) (show DSC[1]? = _ from rfl) (by decide) (ft_rem (by decide +kernel) (by decide +kernel))
  have hS : FS (ωk G DSC B 1 2 E (nf 1 [0, 1, 2, 3, 4, 5, 6, 7, 8, 9, 10, 11, 12, 13, 14])) s s.heap [] := hS
  have C : Cx (ωk G DSC B 1 2 E (nf 1 [0, 1, 2, 3, 4, 5, 6, 7, 8, 9, 10, 11, 12, 13, 14])) p s m args c cX11_init 1 RX11 := Cx.ofk hok C
  obtain ⟨H, hHs⟩ : ∃ H, H = s.heap := ⟨_, rfl⟩
  rw [← hHs] at hH ⊢
  obtain ⟨locs, hlocs⟩ : ∃ locs : List Loc, locs = [] := ⟨_, rfl⟩
  rw [← hlocs] at hS ⊢
  have hS : FS (ωk G DSC B 1 2 E (nf 1 [0, 1, 2, 3, 4, 5, 6, 7, 8, 9, 10, 11, 12, 13, 14])) s H locs := by rw [hHs]; exact hS
  refine lv_aload_n hx hb dX11_init_0 rfl (lv_at hl 0 rfl) ?_
  refine k_obj (rest := []) C hl.1 wd_124 (Nat.le_of_ble_eq_true rfl) (Nat.le_of_ble_eq_true rfl) dX11_init_1 ?_
  refine lv_aload_n hx hb dX11_init_4 rfl (lv_at hl 0 rfl) ?_
  refine lv_sipush (v := 2000) hx hb dX11_init_5 (by decide) ?_
  have hq := bd_e h; clear h; obtain ⟨μ1, e2, h⟩ := hq
  refine k_newa (atype := .byte) (rest := [.ref (B + 1)]) hE C hH hS (by decide) (show DSC[2]? = _ from rfl) rfl (by decide) (by decide) wd_208 (by decide) (by decide) (by decide) (Nat.le_of_ble_eq_true rfl) (Nat.le_of_ble_eq_true rfl) dX11_init_8 (fun H hH hS => ?_)
  replace hH : Hd (ωk G DSC B 1 3 E (nf 1 [0, 1, 2, 3, 4, 5, 6, 7, 8, 9, 10, 11, 12, 13, 14])) μ1 H := Hd.to e2 hH
  replace hS : FS (ωk G DSC B 1 3 E (nf 1 [0, 1, 2, 3, 4, 5, 6, 7, 8, 9, 10, 11, 12, 13, 14])) s H locs := hS
  replace C : Cx (ωk G DSC B 1 3 E (nf 1 [0, 1, 2, 3, 4, 5, 6, 7, 8, 9, 10, 11, 12, 13, 14])) p s m args c cX11_init 1 RX11 := Cx.ofk hok C
  refine k_putr hin2 (k := 0) (Rem := [1, 2, 3, 4, 5, 6, 7, 8, 9, 10, 11, 12, 13, 14]) (ty := tyX11 0) (rest := []) C hH hS (show DSC[1]? = _ from rfl) (by decide) rfl (show 0 < 17 by decide) rfl wd_474 rfl rfl rfl (by decide) rfl (by decide) (by decide) dX11_init_10 (fun H locs hH hS => ?_)
  replace hS : FS (ωk G DSC B 1 3 E (nf 1 [1, 2, 3, 4, 5, 6, 7, 8, 9, 10, 11, 12, 13, 14])) s H locs := hS
  replace C : Cx (ωk G DSC B 1 3 E (nf 1 [1, 2, 3, 4, 5, 6, 7, 8, 9, 10, 11, 12, 13, 14])) p s m args c cX11_init 1 RX11 := Cx.ofk hok C
  replace hH : Hd (ωk G DSC B 1 3 E (nf 1 [1, 2, 3, 4, 5, 6, 7, 8, 9, 10, 11, 12, 13, 14])) μ1 H := hH
  refine lv_aload_n hx hb dX11_init_13 rfl (lv_at hl 0 rfl) ?_
  have hq := bd_e h; clear h; obtain ⟨μ3, e4, h⟩ := hq
  refine k_new (N' := ch 3 (nf 1 [1, 2, 3, 4, 5, 6, 7, 8, 9, 10, 11, 12, 13, 14])) (ty := tyX4) (r := (RX4, TX4, 6)) (rest := [.ref (B + 1)]) C hH hS (by decide) (show DSC[3]? = _ from rfl) (by decide) rfl tyX4_ok (by decide +kernel) (fun k => ch_eq) (fun j k hj => ch_ne (Nat.ne_of_lt hj)) wd_127 wd_128 wd_99 (Nat.le_of_ble_eq_true rfl) (Nat.le_of_ble_eq_true rfl) dX11_init_14 (fun H hH hS => ?_)
  replace hH : Hd (ωk G DSC B 1 4 E (ch 3 (nf 1 [1, 2, 3, 4, 5, 6, 7, 8, 9, 10, 11, 12, 13, 14]))) μ3 H := Hd.to e4 hH
  refine lv_dup hx hb dX11_init_17 rfl ?_
  have hq := b1_e h; clear h; obtain ⟨μ5, e6, h⟩ := hq
  refine k_init (as := []) (rest := [.ref (B + 3), .ref (B + 1)]) (N' := (nf 1 [1, 2, 3, 4, 5, 6, 7, 8, 9, 10, 11, 12, 13, 14])) (i_X4 hE (fun U hU => (hEX U hU).nar (fun q hq => Nat.le_trans (Nat.add_le_add_left (by decide) B) hq)) (lay_sub (i := 0) (L := DSC) (Lc := LReader) 3 (fun r x h => by rw [Nat.zero_add]; exact h) (by decide +kernel)) e6) hok (Cx.ofk hok C) hl.1 (by decide) hH (fun k => ch_eq) (fun j k hj => (ch_ne (Nat.ne_of_lt hj)).symm) (fun j k hj => nf_ne (Nat.ne_of_gt (Nat.lt_of_lt_of_le (by decide) hj))) hS rfl mw_X4_init rfl wd_130 wd_129 rfl (rmc_ok (by decide) (by decide)) (Nat.le_of_ble_eq_true rfl) ⟨Nat.le_of_ble_eq_true rfl, Nat.le_of_ble_eq_true rfl⟩ dX11_init_18 (fun H locs hH hS => ?_)
  have hq := bd_e h; clear h; obtain ⟨μ7, e8, h⟩ := hq
  replace hH : Hd (ωk G DSC B 1 17 E (nf 1 [1, 2, 3, 4, 5, 6, 7, 8, 9, 10, 11, 12, 13, 14])) μ7 H := Hd.to e8 hH
  replace hS : FS (ωk G DSC B 1 17 E (nf 1 [1, 2, 3, 4, 5, 6, 7, 8, 9, 10, 11, 12, 13, 14])) s H locs := hS
  replace C : Cx (ωk G DSC B 1 17 E (nf 1 [1, 2, 3, 4, 5, 6, 7, 8, 9, 10, 11, 12, 13, 14])) p s m args c cX11_init 1 RX11 := Cx.ofk hok C
  refine k_putr hin2 (k := 1) (Rem := [2, 3, 4, 5, 6, 7, 8, 9, 10, 11, 12, 13, 14]) (ty := tyX11 1) (rest := []) C hH hS (show DSC[1]? = _ from rfl) (by decide) rfl (show 1 < 17 by decide) rfl wd_475 rfl rfl rfl (by decide) rfl (by decide) (by decide) dX11_init_21 (fun H locs hH hS => ?_)
  replace hS : FS (ωk G DSC B 1 17 E (nf 1 [2, 3, 4, 5, 6, 7, 8, 9, 10, 11, 12, 13, 14])) s H locs := hS
  replace C : Cx (ωk G DSC B 1 17 E (nf 1 [2, 3, 4, 5, 6, 7, 8, 9, 10, 11, 12, 13, 14])) p s m args c cX11_init 1 RX11 := Cx.ofk hok C
  replace hH : Hd (ωk G DSC B 1 17 E (nf 1 [2, 3, 4, 5, 6, 7, 8, 9, 10, 11, 12, 13, 14])) μ7 H := hH
  refine lv_aload_n hx hb dX11_init_24 rfl (lv_at hl 0 rfl) ?_
  have hq := bd_e h; clear h; obtain ⟨μ9, e10, h⟩ := hq
  refine k_new (N' := ch 17 (nf 1 [2, 3, 4, 5, 6, 7, 8, 9, 10, 11, 12, 13, 14])) (ty := tyX3) (r := (RX3, TX3, 7)) (rest := [.ref (B + 1)]) C hH hS (by decide) (show DSC[17]? = _ from rfl) (by decide) rfl tyX3_ok (by decide +kernel) (fun k => ch_eq) (fun j k hj => ch_ne (Nat.ne_of_lt hj)) wd_314 wd_212 wd_105 (Nat.le_of_ble_eq_true rfl) (Nat.le_of_ble_eq_true rfl) dX11_init_25 (fun H hH hS => ?_)
  replace hH : Hd (ωk G DSC B 1 18 E (ch 17 (nf 1 [2, 3, 4, 5, 6, 7, 8, 9, 10, 11, 12, 13, 14]))) μ9 H := Hd.to e10 hH
  refine lv_dup hx hb dX11_init_28 rfl ?_
  have hq := b1_e h; clear h; obtain ⟨μ11, e12, h⟩ := hq
  refine k_init (as := []) (rest := [.ref (B + 17), .ref (B + 1)]) (N' := (nf 1 [2, 3, 4, 5, 6, 7, 8, 9, 10, 11, 12, 13, 14])) (i_X3 hE (lay_sub (i := 0) (L := DSC) (Lc := LQuarter) 17 (fun r x h => by rw [Nat.zero_add]; exact h) (by decide +kernel)) e12) hok (Cx.ofk hok C) hl.1 (by decide) hH (fun k => ch_eq) (fun j k hj => (ch_ne (Nat.ne_of_lt hj)).symm) (fun j k hj => nf_ne (Nat.ne_of_gt (Nat.lt_of_lt_of_le (by decide) hj))) hS rfl mw_X3_init rfl wd_214 wd_315 rfl (rmc_ok (by decide) (by decide)) (Nat.le_of_ble_eq_true rfl) ⟨Nat.le_of_ble_eq_true rfl, Nat.le_of_ble_eq_true rfl⟩ dX11_init_29 (fun H locs hH hS => ?_)
  have hq := bd_e h; clear h; obtain ⟨μ13, e14, h⟩ := hq
  replace hH : Hd (ωk G DSC B 1 24 E (nf 1 [2, 3, 4, 5, 6, 7, 8, 9, 10, 11, 12, 13, 14])) μ13 H := Hd.to e14 hH
  replace hS : FS (ωk G DSC B 1 24 E (nf 1 [2, 3, 4, 5, 6, 7, 8, 9, 10, 11, 12, 13, 14])) s H locs := hS
  replace C : Cx (ωk G DSC B 1 24 E (nf 1 [2, 3, 4, 5, 6, 7, 8, 9, 10, 11, 12, 13, 14])) p s m args c cX11_init 1 RX11 := Cx.ofk hok C
  refine k_putr hin2 (k := 2) (Rem := [3, 4, 5, 6, 7, 8, 9, 10, 11, 12, 13, 14]) (ty := tyX11 2) (rest := []) C hH hS (show DSC[1]? = _ from rfl) (by decide) rfl (show 2 < 17 by decide) rfl wd_476 rfl rfl rfl (by decide) rfl (by decide) (by decide) dX11_init_32 (fun H locs hH hS => ?_)
  replace hS : FS (ωk G DSC B 1 24 E (nf 1 [3, 4, 5, 6, 7, 8, 9, 10, 11, 12, 13, 14])) s H locs := hS
  replace C : Cx (ωk G DSC B 1 24 E (nf 1 [3, 4, 5, 6, 7, 8, 9, 10, 11, 12, 13, 14])) p s m args c cX11_init 1 RX11 := Cx.ofk hok C
  replace hH : Hd (ωk G DSC B 1 24 E (nf 1 [3, 4, 5, 6, 7, 8, 9, 10, 11, 12, 13, 14])) μ13 H := hH
  refine lv_aload_n hx hb dX11_init_35 rfl (lv_at hl 0 rfl) ?_
  have hq := bd_e h; clear h; obtain ⟨μ15, e16, h⟩ := hq
  refine k_new (N' := ch 24 (nf 1 [3, 4, 5, 6, 7, 8, 9, 10, 11, 12, 13, 14])) (ty := tyX7) (r := (RX7, TX7, 5)) (rest := [.ref (B + 1)]) C hH hS (by decide) (show DSC[24]? = _ from rfl) (by decide) rfl tyX7_ok (by decide +kernel) (fun k => ch_eq) (fun j k hj => ch_ne (Nat.ne_of_lt hj)) wd_316 wd_317 wd_107 (Nat.le_of_ble_eq_true rfl) (Nat.le_of_ble_eq_true rfl) dX11_init_36 (fun H hH hS => ?_)
  replace hH : Hd (ωk G DSC B 1 25 E (ch 24 (nf 1 [3, 4, 5, 6, 7, 8, 9, 10, 11, 12, 13, 14]))) μ15 H := Hd.to e16 hH
  refine lv_dup hx hb dX11_init_39 rfl ?_
  have hq := b1_e h; clear h; obtain ⟨μ17, e18, h⟩ := hq
  refine k_init (as := []) (rest := [.ref (B + 24), .ref (B + 1)]) (N' := (nf 1 [3, 4, 5, 6, 7, 8, 9, 10, 11, 12, 13, 14])) (i_X7 hE (lay_sub (i := 0) (L := DSC) (Lc := LState) 24 (fun r x h => by rw [Nat.zero_add]; exact h) (by decide +kernel)) e18) hok (Cx.ofk hok C) hl.1 (by decide) hH (fun k => ch_eq) (fun j k hj => (ch_ne (Nat.ne_of_lt hj)).symm) (fun j k hj => nf_ne (Nat.ne_of_gt (Nat.lt_of_lt_of_le (by decide) hj))) hS rfl mw_X7_init rfl wd_319 wd_318 rfl (rmc_ok (by decide) (by decide)) (Nat.le_of_ble_eq_true rfl) ⟨Nat.le_of_ble_eq_true rfl, Nat.le_of_ble_eq_true rfl⟩ dX11_init_40 (fun H locs hH hS => ?_)
  have hq := bd_e h; clear h; obtain ⟨μ19, e20, h⟩ := hq
  replace hH : Hd (ωk G DSC B 1 26 E (nf 1 [3, 4, 5, 6, 7, 8, 9, 10, 11, 12, 13, 14])) μ19 H := Hd.to e20 hH
  replace hS : FS (ωk G DSC B 1 26 E (nf 1 [3, 4, 5, 6, 7, 8, 9, 10, 11, 12, 13, 14])) s H locs := hS
  replace C : Cx (ωk G DSC B 1 26 E (nf 1 [3, 4, 5, 6, 7, 8, 9, 10, 11, 12, 13, 14])) p s m args c cX11_init 1 RX11 := Cx.ofk hok C
  refine k_putr hin2 (k := 3) (Rem := [4, 5, 6, 7, 8, 9, 10, 11, 12, 13, 14]) (ty := tyX11 3) (rest := []) C hH hS (show DSC[1]? = _ from rfl) (by decide) rfl (show 3 < 17 by decide) rfl wd_477 rfl rfl rfl (by decide) rfl (by decide) (by decide) dX11_init_43 (fun H locs hH hS => ?_)
  replace hS : FS (ωk G DSC B 1 26 E (nf 1 [4, 5, 6, 7, 8, 9, 10, 11, 12, 13, 14])) s H locs := hS
  replace C : Cx (ωk G DSC B 1 26 E (nf 1 [4, 5, 6, 7, 8, 9, 10, 11, 12, 13, 14])) p s m args c cX11_init 1 RX11 := Cx.ofk hok C
  replace hH : Hd (ωk G DSC B 1 26 E (nf 1 [4, 5, 6, 7, 8, 9, 10, 11, 12, 13, 14])) μ19 H := hH
  refine lv_aload_n hx hb dX11_init_46 rfl (lv_at hl 0 rfl) ?_
  refine h_getr (j := 1) (k := 3) (i := 24) C hH ⟨by decide, by decide⟩ (show DSC[1]? = _ from rfl) (by decide) rfl (show 3 < 17 by decide) rfl (by decide) rfl rfl wd_477 dX11_init_47 ?_
  refine lv_aload_n hx hb dX11_init_50 rfl (lv_at hl 0 rfl) ?_
  refine h_getr (j := 1) (k := 2) (i := 17) C hH ⟨by decide, by decide⟩ (show DSC[1]? = _ from rfl) (by decide) rfl (show 2 < 17 by decide) rfl (by decide) rfl rfl wd_476 dX11_init_51 ?_
  refine h_geti (j := 17) (k := 3) C hH ⟨by decide, by decide⟩ (show DSC[17]? = _ from rfl) (by decide) rfl (show 3 < 7 by decide) rfl rfl wd_266 dX11_init_54 ?_
  have hq := bd_e h; clear h; obtain ⟨μ21, e22, h⟩ := hq
  refine h_puti (ty := .int) (j := 24) (k := 2) (rest := []) C hH hS ⟨by decide, by decide⟩ (show DSC[24]? = _ from rfl) (by decide) rfl (show 2 < 5 by decide) rfl rfl wd_328 rfl rfl rfl dX11_init_57 (fun H locs hH hS => ?_)
  replace hH : Hd (ωk G DSC B 1 26 E (nf 1 [4, 5, 6, 7, 8, 9, 10, 11, 12, 13, 14])) μ21 H := Hd.to e22 hH
  replace hS : FS (ωk G DSC B 1 26 E (nf 1 [4, 5, 6, 7, 8, 9, 10, 11, 12, 13, 14])) s H locs := hS
  replace C : Cx (ωk G DSC B 1 26 E (nf 1 [4, 5, 6, 7, 8, 9, 10, 11, 12, 13, 14])) p s m args c cX11_init 1 RX11 := Cx.ofk hok C
  refine lv_aload_n hx hb dX11_init_60 rfl (lv_at hl 0 rfl) ?_
  have hq := bd_e h; clear h; obtain ⟨μ23, e24, h⟩ := hq
  refine k_new (N' := ch 26 (nf 1 [4, 5, 6, 7, 8, 9, 10, 11, 12, 13, 14])) (ty := tyX7) (r := (RX7, TX7, 5)) (rest := [.ref (B + 1)]) C hH hS (by decide) (show DSC[26]? = _ from rfl) (by decide) rfl tyX7_ok (by decide +kernel) (fun k => ch_eq) (fun j k hj => ch_ne (Nat.ne_of_lt hj)) wd_316 wd_317 wd_107 (Nat.le_of_ble_eq_true rfl) (Nat.le_of_ble_eq_true rfl) dX11_init_61 (fun H hH hS => ?_)
  replace hH : Hd (ωk G DSC B 1 27 E (ch 26 (nf 1 [4, 5, 6, 7, 8, 9, 10, 11, 12, 13, 14]))) μ23 H := Hd.to e24 hH
  refine lv_dup hx hb dX11_init_64 rfl ?_
  have hq := b1_e h; clear h; obtain ⟨μ25, e26, h⟩ := hq
  refine k_init (as := []) (rest := [.ref (B + 26), .ref (B + 1)]) (N' := (nf 1 [4, 5, 6, 7, 8, 9, 10, 11, 12, 13, 14])) (i_X7 hE (lay_sub (i := 0) (L := DSC) (Lc := LState) 26 (fun r x h => by rw [Nat.zero_add]; exact h) (by decide +kernel)) e26) hok (Cx.ofk hok C) hl.1 (by decide) hH (fun k => ch_eq) (fun j k hj => (ch_ne (Nat.ne_of_lt hj)).symm) (fun j k hj => nf_ne (Nat.ne_of_gt (Nat.lt_of_lt_of_le (by decide) hj))) hS rfl mw_X7_init rfl wd_319 wd_318 rfl (rmc_ok (by decide) (by decide)) (Nat.le_of_ble_eq_true rfl) ⟨Nat.le_of_ble_eq_true rfl, Nat.le_of_ble_eq_true rfl⟩ dX11_init_65 (fun H locs hH hS => ?_)
  have hq := bd_e h; clear h; obtain ⟨μ27, e28, h⟩ := hq
  replace hH : Hd (ωk G DSC B 1 28 E (nf 1 [4, 5, 6, 7, 8, 9, 10, 11, 12, 13, 14])) μ27 H := Hd.to e28 hH
  replace hS : FS (ωk G DSC B 1 28 E (nf 1 [4, 5, 6, 7, 8, 9, 10, 11, 12, 13, 14])) s H locs := hS
  replace C : Cx (ωk G DSC B 1 28 E (nf 1 [4, 5, 6, 7, 8, 9, 10, 11, 12, 13, 14])) p s m args c cX11_init 1 RX11 := Cx.ofk hok C
  refine k_putr hin2 (k := 4) (Rem := [5, 6, 7, 8, 9, 10, 11, 12, 13, 14]) (ty := tyX11 4) (rest := []) C hH hS (show DSC[1]? = _ from rfl) (by decide) rfl (show 4 < 17 by decide) rfl wd_478 rfl rfl rfl (by decide) rfl (by decide) (by decide) dX11_init_68 (fun H locs hH hS => ?_)
  replace hS : FS (ωk G DSC B 1 28 E (nf 1 [5, 6, 7, 8, 9, 10, 11, 12, 13, 14])) s H locs := hS
  replace C : Cx (ωk G DSC B 1 28 E (nf 1 [5, 6, 7, 8, 9, 10, 11, 12, 13, 14])) p s m args c cX11_init 1 RX11 := Cx.ofk hok C
  replace hH : Hd (ωk G DSC B 1 28 E (nf 1 [5, 6, 7, 8, 9, 10, 11, 12, 13, 14])) μ27 H := hH
  refine lv_aload_n hx hb dX11_init_71 rfl (lv_at hl 0 rfl) ?_
  have hq := bd_e h; clear h; obtain ⟨μ29, e30, h⟩ := hq
  refine k_new (N' := ch 28 (nf 1 [5, 6, 7, 8, 9, 10, 11, 12, 13, 14])) (ty := tyX7) (r := (RX7, TX7, 5)) (rest := [.ref (B + 1)]) C hH hS (by decide) (show DSC[28]? = _ from rfl) (by decide) rfl tyX7_ok (by decide +kernel) (fun k => ch_eq) (fun j k hj => ch_ne (Nat.ne_of_lt hj)) wd_316 wd_317 wd_107 (Nat.le_of_ble_eq_true rfl) (Nat.le_of_ble_eq_true rfl) dX11_init_72 (fun H hH hS => ?_)
  replace hH : Hd (ωk G DSC B 1 29 E (ch 28 (nf 1 [5, 6, 7, 8, 9, 10, 11, 12, 13, 14]))) μ29 H := Hd.to e30 hH
  refine lv_dup hx hb dX11_init_75 rfl ?_
  have hq := b1_e h; clear h; obtain ⟨μ31, e32, h⟩ := hq
  refine k_init (as := []) (rest := [.ref (B + 28), .ref (B + 1)]) (N' := (nf 1 [5, 6, 7, 8, 9, 10, 11, 12, 13, 14])) (i_X7 hE (lay_sub (i := 0) (L := DSC) (Lc := LState) 28 (fun r x h => by rw [Nat.zero_add]; exact h) (by decide +kernel)) e32) hok (Cx.ofk hok C) hl.1 (by decide) hH (fun k => ch_eq) (fun j k hj => (ch_ne (Nat.ne_of_lt hj)).symm) (fun j k hj => nf_ne (Nat.ne_of_gt (Nat.lt_of_lt_of_le (by decide) hj))) hS rfl mw_X7_init rfl wd_319 wd_318 rfl (rmc_ok (by decide) (by decide)) (Nat.le_of_ble_eq_true rfl) ⟨Nat.le_of_ble_eq_true rfl, Nat.le_of_ble_eq_true rfl⟩ dX11_init_76 (fun H locs hH hS => ?_)
  have hq := bd_e h; clear h; obtain ⟨μ33, e34, h⟩ := hq
  replace hH : Hd (ωk G DSC B 1 30 E (nf 1 [5, 6, 7, 8, 9, 10, 11, 12, 13, 14])) μ33 H := Hd.to e34 hH
  replace hS : FS (ωk G DSC B 1 30 E (nf 1 [5, 6, 7, 8, 9, 10, 11, 12, 13, 14])) s H locs := hS
  replace C : Cx (ωk G DSC B 1 30 E (nf 1 [5, 6, 7, 8, 9, 10, 11, 12, 13, 14])) p s m args c cX11_init 1 RX11 := Cx.ofk hok C
  refine k_putr hin2 (k := 5) (Rem := [6, 7, 8, 9, 10, 11, 12, 13, 14]) (ty := tyX11 5) (rest := []) C hH hS (show DSC[1]? = _ from rfl) (by decide) rfl (show 5 < 17 by decide) rfl wd_479 rfl rfl rfl (by decide) rfl (by decide) (by decide) dX11_init_79 (fun H locs hH hS => ?_)
  replace hS : FS (ωk G DSC B 1 30 E (nf 1 [6, 7, 8, 9, 10, 11, 12, 13, 14])) s H locs := hS
  replace C : Cx (ωk G DSC B 1 30 E (nf 1 [6, 7, 8, 9, 10, 11, 12, 13, 14])) p s m args c cX11_init 1 RX11 := Cx.ofk hok C
  replace hH : Hd (ωk G DSC B 1 30 E (nf 1 [6, 7, 8, 9, 10, 11, 12, 13, 14])) μ33 H := hH
  refine lv_aload_n hx hb dX11_init_82 rfl (lv_at hl 0 rfl) ?_
  have hq := bd_e h; clear h; obtain ⟨μ35, e36, h⟩ := hq
  refine k_new (N' := ch 30 (nf 1 [6, 7, 8, 9, 10, 11, 12, 13, 14])) (ty := tyX0) (r := (RX0, TX0, 5)) (rest := [.ref (B + 1)]) C hH hS (by decide) (show DSC[30]? = _ from rfl) (by decide) rfl tyX0_ok (by decide +kernel) (fun k => ch_eq) (fun j k hj => ch_ne (Nat.ne_of_lt hj)) wd_348 wd_349 wd_108 (Nat.le_of_ble_eq_true rfl) (Nat.le_of_ble_eq_true rfl) dX11_init_83 (fun H hH hS => ?_)
  replace hH : Hd (ωk G DSC B 1 31 E (ch 30 (nf 1 [6, 7, 8, 9, 10, 11, 12, 13, 14]))) μ35 H := Hd.to e36 hH
  refine lv_dup hx hb dX11_init_86 rfl ?_
  have hq := b1_e h; clear h; obtain ⟨μ37, e38, h⟩ := hq
  refine k_init (as := []) (rest := [.ref (B + 30), .ref (B + 1)]) (N' := (nf 1 [6, 7, 8, 9, 10, 11, 12, 13, 14])) (i_X0 hE (lay_sub (i := 0) (L := DSC) (Lc := LHistory) 30 (fun r x h => by rw [Nat.zero_add]; exact h) (by decide +kernel)) e38) hok (Cx.ofk hok C) hl.1 (by decide) hH (fun k => ch_eq) (fun j k hj => (ch_ne (Nat.ne_of_lt hj)).symm) (fun j k hj => nf_ne (Nat.ne_of_gt (Nat.lt_of_lt_of_le (by decide) hj))) hS rfl mw_X0_init rfl wd_351 wd_350 rfl (rmc_ok (by decide) (by decide)) (Nat.le_of_ble_eq_true rfl) ⟨Nat.le_of_ble_eq_true rfl, Nat.le_of_ble_eq_true rfl⟩ dX11_init_87 (fun H locs hH hS => ?_)
  have hq := bd_e h; clear h; obtain ⟨μ39, e40, h⟩ := hq
  replace hH : Hd (ωk G DSC B 1 120 E (nf 1 [6, 7, 8, 9, 10, 11, 12, 13, 14])) μ39 H := Hd.to e40 hH
  replace hS : FS (ωk G DSC B 1 120 E (nf 1 [6, 7, 8, 9, 10, 11, 12, 13, 14])) s H locs := hS
  replace C : Cx (ωk G DSC B 1 120 E (nf 1 [6, 7, 8, 9, 10, 11, 12, 13, 14])) p s m args c cX11_init 1 RX11 := Cx.ofk hok C
  refine k_putr hin2 (k := 6) (Rem := [7, 8, 9, 10, 11, 12, 13, 14]) (ty := tyX11 6) (rest := []) C hH hS (show DSC[1]? = _ from rfl) (by decide) rfl (show 6 < 17 by decide) rfl wd_480 rfl rfl rfl (by decide) rfl (by decide) (by decide) dX11_init_90 (fun H locs hH hS => ?_)
  replace hS : FS (ωk G DSC B 1 120 E (nf 1 [7, 8, 9, 10, 11, 12, 13, 14])) s H locs := hS
  replace C : Cx (ωk G DSC B 1 120 E (nf 1 [7, 8, 9, 10, 11, 12, 13, 14])) p s m args c cX11_init 1 RX11 := Cx.ofk hok C
  replace hH : Hd (ωk G DSC B 1 120 E (nf 1 [7, 8, 9, 10, 11, 12, 13, 14])) μ39 H := hH
  refine lv_aload_n hx hb dX11_init_93 rfl (lv_at hl 0 rfl) ?_
  have hq := bd_e h; clear h; obtain ⟨μ41, e42, h⟩ := hq
  refine k_new (N' := ch 120 (nf 1 [7, 8, 9, 10, 11, 12, 13, 14])) (ty := tyX6) (r := (RX6, TX6, 6)) (rest := [.ref (B + 1)]) C hH hS (by decide) (show DSC[120]? = _ from rfl) (by decide) rfl tyX6_ok (by decide +kernel) (fun k => ch_eq) (fun j k hj => ch_ne (Nat.ne_of_lt hj)) wd_375 wd_376 wd_109 (Nat.le_of_ble_eq_true rfl) (Nat.le_of_ble_eq_true rfl) dX11_init_94 (fun H hH hS => ?_)
  replace hH : Hd (ωk G DSC B 1 121 E (ch 120 (nf 1 [7, 8, 9, 10, 11, 12, 13, 14]))) μ41 H := Hd.to e42 hH
  refine lv_dup hx hb dX11_init_97 rfl ?_
  refine lv_bipush (v := 30) hx hb dX11_init_98 (by decide) ?_
  have hq := b1_e h; clear h; obtain ⟨μ43, e44, h⟩ := hq
  refine k_init (as := [.int 30]) (rest := [.ref (B + 120), .ref (B + 1)]) (N' := (nf 1 [7, 8, 9, 10, 11, 12, 13, 14])) (i_X6 hE (lay_sub (i := 0) (L := DSC) (Lc := (LShares 31)) 120 (fun r x h => by rw [Nat.zero_add]; exact h) (by decide +kernel)) (by decide) (by decide) (by decide) e44) hok (Cx.ofk hok C) hl.1 (by decide) hH (fun k => ch_eq) (fun j k hj => (ch_ne (Nat.ne_of_lt hj)).symm) (fun j k hj => nf_ne (Nat.ne_of_gt (Nat.lt_of_lt_of_le (by decide) hj))) hS rfl mw_X6_init rfl wd_378 wd_377 rfl (rmc_ok (by decide) (by decide)) (Nat.le_of_ble_eq_true rfl) ⟨Nat.le_of_ble_eq_true rfl, Nat.le_of_ble_eq_true rfl⟩ dX11_init_100 (fun H locs hH hS => ?_)
  have hq := bd_e h; clear h; obtain ⟨μ45, e46, h⟩ := hq
  replace hH : Hd (ωk G DSC B 1 139 E (nf 1 [7, 8, 9, 10, 11, 12, 13, 14])) μ45 H := Hd.to e46 hH
  replace hS : FS (ωk G DSC B 1 139 E (nf 1 [7, 8, 9, 10, 11, 12, 13, 14])) s H locs := hS
  replace C : Cx (ωk G DSC B 1 139 E (nf 1 [7, 8, 9, 10, 11, 12, 13, 14])) p s m args c cX11_init 1 RX11 := Cx.ofk hok C
  refine k_putr hin2 (k := 7) (Rem := [8, 9, 10, 11, 12, 13, 14]) (ty := tyX11 7) (rest := []) C hH hS (show DSC[1]? = _ from rfl) (by decide) rfl (show 7 < 17 by decide) rfl wd_481 rfl rfl rfl (by decide) rfl (by decide) (by decide) dX11_init_103 (fun H locs hH hS => ?_)
  replace hS : FS (ωk G DSC B 1 139 E (nf 1 [8, 9, 10, 11, 12, 13, 14])) s H locs := hS
  replace C : Cx (ωk G DSC B 1 139 E (nf 1 [8, 9, 10, 11, 12, 13, 14])) p s m args c cX11_init 1 RX11 := Cx.ofk hok C
  replace hH : Hd (ωk G DSC B 1 139 E (nf 1 [8, 9, 10, 11, 12, 13, 14])) μ45 H := hH
  refine lv_aload_n hx hb dX11_init_106 rfl (lv_at hl 0 rfl) ?_
  have hq := bd_e h; clear h; obtain ⟨μ47, e48, h⟩ := hq
  refine k_new (N' := ch 139 (nf 1 [8, 9, 10, 11, 12, 13, 14])) (ty := tyX6) (r := (RX6, TX6, 6)) (rest := [.ref (B + 1)]) C hH hS (by decide) (show DSC[139]? = _ from rfl) (by decide) rfl tyX6_ok (by decide +kernel) (fun k => ch_eq) (fun j k hj => ch_ne (Nat.ne_of_lt hj)) wd_375 wd_376 wd_109 (Nat.le_of_ble_eq_true rfl) (Nat.le_of_ble_eq_true rfl) dX11_init_107 (fun H hH hS => ?_)
  replace hH : Hd (ωk G DSC B 1 140 E (ch 139 (nf 1 [8, 9, 10, 11, 12, 13, 14]))) μ47 H := Hd.to e48 hH
  refine lv_dup hx hb dX11_init_110 rfl ?_
  refine lv_bipush (v := 10) hx hb dX11_init_111 (by decide) ?_
  have hq := b1_e h; clear h; obtain ⟨μ49, e50, h⟩ := hq
  refine k_init (as := [.int 10]) (rest := [.ref (B + 139), .ref (B + 1)]) (N' := (nf 1 [8, 9, 10, 11, 12, 13, 14])) (i_X6 hE (lay_sub (i := 0) (L := DSC) (Lc := (LShares 11)) 139 (fun r x h => by rw [Nat.zero_add]; exact h) (by decide +kernel)) (by decide) (by decide) (by decide) e50) hok (Cx.ofk hok C) hl.1 (by decide) hH (fun k => ch_eq) (fun j k hj => (ch_ne (Nat.ne_of_lt hj)).symm) (fun j k hj => nf_ne (Nat.ne_of_gt (Nat.lt_of_lt_of_le (by decide) hj))) hS rfl mw_X6_init rfl wd_378 wd_377 rfl (rmc_ok (by decide) (by decide)) (Nat.le_of_ble_eq_true rfl) ⟨Nat.le_of_ble_eq_true rfl, Nat.le_of_ble_eq_true rfl⟩ dX11_init_113 (fun H locs hH hS => ?_)
  have hq := bd_e h; clear h; obtain ⟨μ51, e52, h⟩ := hq
  replace hH : Hd (ωk G DSC B 1 158 E (nf 1 [8, 9, 10, 11, 12, 13, 14])) μ51 H := Hd.to e52 hH
  replace hS : FS (ωk G DSC B 1 158 E (nf 1 [8, 9, 10, 11, 12, 13, 14])) s H locs := hS
  replace C : Cx (ωk G DSC B 1 158 E (nf 1 [8, 9, 10, 11, 12, 13, 14])) p s m args c cX11_init 1 RX11 := Cx.ofk hok C
  refine k_putr hin2 (k := 8) (Rem := [9, 10, 11, 12, 13, 14]) (ty := tyX11 8) (rest := []) C hH hS (show DSC[1]? = _ from rfl) (by decide) rfl (show 8 < 17 by decide) rfl wd_482 rfl rfl rfl (by decide) rfl (by decide) (by decide) dX11_init_116 (fun H locs hH hS => ?_)
  replace hS : FS (ωk G DSC B 1 158 E (nf 1 [9, 10, 11, 12, 13, 14])) s H locs := hS
  replace C : Cx (ωk G DSC B 1 158 E (nf 1 [9, 10, 11, 12, 13, 14])) p s m args c cX11_init 1 RX11 := Cx.ofk hok C
  replace hH : Hd (ωk G DSC B 1 158 E (nf 1 [9, 10, 11, 12, 13, 14])) μ51 H := hH
  refine lv_aload_n hx hb dX11_init_119 rfl (lv_at hl 0 rfl) ?_
  have hq := bd_e h; clear h; obtain ⟨μ53, e54, h⟩ := hq
  refine k_new (N' := ch 158 (nf 1 [9, 10, 11, 12, 13, 14])) (ty := tyX6) (r := (RX6, TX6, 6)) (rest := [.ref (B + 1)]) C hH hS (by decide) (show DSC[158]? = _ from rfl) (by decide) rfl tyX6_ok (by decide +kernel) (fun k => ch_eq) (fun j k hj => ch_ne (Nat.ne_of_lt hj)) wd_375 wd_376 wd_109 (Nat.le_of_ble_eq_true rfl) (Nat.le_of_ble_eq_true rfl) dX11_init_120 (fun H hH hS => ?_)
  replace hH : Hd (ωk G DSC B 1 159 E (ch 158 (nf 1 [9, 10, 11, 12, 13, 14]))) μ53 H := Hd.to e54 hH
  refine lv_dup hx hb dX11_init_123 rfl ?_
  refine lv_bipush (v := 10) hx hb dX11_init_124 (by decide) ?_
  have hq := b1_e h; clear h; obtain ⟨μ55, e56, h⟩ := hq
  refine k_init (as := [.int 10]) (rest := [.ref (B + 158), .ref (B + 1)]) (N' := (nf 1 [9, 10, 11, 12, 13, 14])) (i_X6 hE (lay_sub (i := 0) (L := DSC) (Lc := (LShares 11)) 158 (fun r x h => by rw [Nat.zero_add]; exact h) (by decide +kernel)) (by decide) (by decide) (by decide) e56) hok (Cx.ofk hok C) hl.1 (by decide) hH (fun k => ch_eq) (fun j k hj => (ch_ne (Nat.ne_of_lt hj)).symm) (fun j k hj => nf_ne (Nat.ne_of_gt (Nat.lt_of_lt_of_le (by decide) hj))) hS rfl mw_X6_init rfl wd_378 wd_377 rfl (rmc_ok (by decide) (by decide)) (Nat.le_of_ble_eq_true rfl) ⟨Nat.le_of_ble_eq_true rfl, Nat.le_of_ble_eq_true rfl⟩ dX11_init_126 (fun H locs hH hS => ?_)
  have hq := bd_e h; clear h; obtain ⟨μ57, e58, h⟩ := hq
  replace hH : Hd (ωk G DSC B 1 177 E (nf 1 [9, 10, 11, 12, 13, 14])) μ57 H := Hd.to e58 hH
  replace hS : FS (ωk G DSC B 1 177 E (nf 1 [9, 10, 11, 12, 13, 14])) s H locs := hS
  replace C : Cx (ωk G DSC B 1 177 E (nf 1 [9, 10, 11, 12, 13, 14])) p s m args c cX11_init 1 RX11 := Cx.ofk hok C
  refine k_putr hin2 (k := 9) (Rem := [10, 11, 12, 13, 14]) (ty := tyX11 9) (rest := []) C hH hS (show DSC[1]? = _ from rfl) (by decide) rfl (show 9 < 17 by decide) rfl wd_483 rfl rfl rfl (by decide) rfl (by decide) (by decide) dX11_init_129 (fun H locs hH hS => ?_)
  replace hS : FS (ωk G DSC B 1 177 E (nf 1 [10, 11, 12, 13, 14])) s H locs := hS
  replace C : Cx (ωk G DSC B 1 177 E (nf 1 [10, 11, 12, 13, 14])) p s m args c cX11_init 1 RX11 := Cx.ofk hok C
  replace hH : Hd (ωk G DSC B 1 177 E (nf 1 [10, 11, 12, 13, 14])) μ57 H := hH
  refine lv_aload_n hx hb dX11_init_132 rfl (lv_at hl 0 rfl) ?_
  have hq := bd_e h; clear h; obtain ⟨μ59, e60, h⟩ := hq
  refine k_new (N' := ch 177 (nf 1 [10, 11, 12, 13, 14])) (ty := tyX10) (r := (RX10, TX10, 3)) (rest := [.ref (B + 1)]) C hH hS (by decide) (show DSC[177]? = _ from rfl) (by decide) rfl tyX10_ok (by decide +kernel) (fun k => ch_eq) (fun j k hj => ch_ne (Nat.ne_of_lt hj)) wd_404 wd_405 wd_110 (Nat.le_of_ble_eq_true rfl) (Nat.le_of_ble_eq_true rfl) dX11_init_133 (fun H hH hS => ?_)
  replace hH : Hd (ωk G DSC B 1 178 E (ch 177 (nf 1 [10, 11, 12, 13, 14]))) μ59 H := Hd.to e60 hH
  refine lv_dup hx hb dX11_init_136 rfl ?_
  have hq := b1_e h; clear h; obtain ⟨μ61, e62, h⟩ := hq
  refine k_init (as := []) (rest := [.ref (B + 177), .ref (B + 1)]) (N' := (nf 1 [10, 11, 12, 13, 14])) (i_X10 hE (lay_sub (i := 0) (L := DSC) (Lc := LWay) 177 (fun r x h => by rw [Nat.zero_add]; exact h) (by decide +kernel)) e62) hok (Cx.ofk hok C) hl.1 (by decide) hH (fun k => ch_eq) (fun j k hj => (ch_ne (Nat.ne_of_lt hj)).symm) (fun j k hj => nf_ne (Nat.ne_of_gt (Nat.lt_of_lt_of_le (by decide) hj))) hS rfl mw_X10_init rfl wd_407 wd_406 rfl (rmc_ok (by decide) (by decide)) (Nat.le_of_ble_eq_true rfl) ⟨Nat.le_of_ble_eq_true rfl, Nat.le_of_ble_eq_true rfl⟩ dX11_init_137 (fun H locs hH hS => ?_)
  have hq := bd_e h; clear h; obtain ⟨μ63, e64, h⟩ := hq
  replace hH : Hd (ωk G DSC B 1 180 E (nf 1 [10, 11, 12, 13, 14])) μ63 H := Hd.to e64 hH
  replace hS : FS (ωk G DSC B 1 180 E (nf 1 [10, 11, 12, 13, 14])) s H locs := hS
  replace C : Cx (ωk G DSC B 1 180 E (nf 1 [10, 11, 12, 13, 14])) p s m args c cX11_init 1 RX11 := Cx.ofk hok C
  refine k_putr hin2 (k := 10) (Rem := [11, 12, 13, 14]) (ty := tyX11 10) (rest := []) C hH hS (show DSC[1]? = _ from rfl) (by decide) rfl (show 10 < 17 by decide) rfl wd_484 rfl rfl rfl (by decide) rfl (by decide) (by decide) dX11_init_140 (fun H locs hH hS => ?_)
  replace hS : FS (ωk G DSC B 1 180 E (nf 1 [11, 12, 13, 14])) s H locs := hS
  replace C : Cx (ωk G DSC B 1 180 E (nf 1 [11, 12, 13, 14])) p s m args c cX11_init 1 RX11 := Cx.ofk hok C
  replace hH : Hd (ωk G DSC B 1 180 E (nf 1 [11, 12, 13, 14])) μ63 H := hH
  refine lv_aload_n hx hb dX11_init_143 rfl (lv_at hl 0 rfl) ?_
  have hq := bd_e h; clear h; obtain ⟨μ65, e66, h⟩ := hq
  refine k_new (N' := ch 180 (nf 1 [11, 12, 13, 14])) (ty := tyX5) (r := (RX5, TX5, 2)) (rest := [.ref (B + 1)]) C hH hS (by decide) (show DSC[180]? = _ from rfl) (by decide) rfl tyX5_ok (by decide +kernel) (fun k => ch_eq) (fun j k hj => ch_ne (Nat.ne_of_lt hj)) wd_422 wd_423 wd_111 (Nat.le_of_ble_eq_true rfl) (Nat.le_of_ble_eq_true rfl) dX11_init_144 (fun H hH hS => ?_)
  replace hH : Hd (ωk G DSC B 1 181 E (ch 180 (nf 1 [11, 12, 13, 14]))) μ65 H := Hd.to e66 hH
  refine lv_dup hx hb dX11_init_147 rfl ?_
  have hq := b1_e h; clear h; obtain ⟨μ67, e68, h⟩ := hq
  refine k_init (as := []) (rest := [.ref (B + 180), .ref (B + 1)]) (N' := (nf 1 [11, 12, 13, 14])) (i_X5 hE (lay_sub (i := 0) (L := DSC) (Lc := LRoofs) 180 (fun r x h => by rw [Nat.zero_add]; exact h) (by decide +kernel)) e68) hok (Cx.ofk hok C) hl.1 (by decide) hH (fun k => ch_eq) (fun j k hj => (ch_ne (Nat.ne_of_lt hj)).symm) (fun j k hj => nf_ne (Nat.ne_of_gt (Nat.lt_of_lt_of_le (by decide) hj))) hS rfl mw_X5_init rfl wd_425 wd_424 rfl (rmc_ok (by decide) (by decide)) (Nat.le_of_ble_eq_true rfl) ⟨Nat.le_of_ble_eq_true rfl, Nat.le_of_ble_eq_true rfl⟩ dX11_init_148 (fun H locs hH hS => ?_)
  have hq := bd_e h; clear h; obtain ⟨μ69, e70, h⟩ := hq
  replace hH : Hd (ωk G DSC B 1 183 E (nf 1 [11, 12, 13, 14])) μ69 H := Hd.to e70 hH
  replace hS : FS (ωk G DSC B 1 183 E (nf 1 [11, 12, 13, 14])) s H locs := hS
  replace C : Cx (ωk G DSC B 1 183 E (nf 1 [11, 12, 13, 14])) p s m args c cX11_init 1 RX11 := Cx.ofk hok C
  refine k_putr hin2 (k := 11) (Rem := [12, 13, 14]) (ty := tyX11 11) (rest := []) C hH hS (show DSC[1]? = _ from rfl) (by decide) rfl (show 11 < 17 by decide) rfl wd_485 rfl rfl rfl (by decide) rfl (by decide) (by decide) dX11_init_151 (fun H locs hH hS => ?_)
  replace hS : FS (ωk G DSC B 1 183 E (nf 1 [12, 13, 14])) s H locs := hS
  replace C : Cx (ωk G DSC B 1 183 E (nf 1 [12, 13, 14])) p s m args c cX11_init 1 RX11 := Cx.ofk hok C
  replace hH : Hd (ωk G DSC B 1 183 E (nf 1 [12, 13, 14])) μ69 H := hH
  refine lv_aload_n hx hb dX11_init_154 rfl (lv_at hl 0 rfl) ?_
  have hq := bd_e h; clear h; obtain ⟨μ71, e72, h⟩ := hq
  refine k_new (N' := ch 183 (nf 1 [12, 13, 14])) (ty := tyX2) (r := (RX2, TX2, 3)) (rest := [.ref (B + 1)]) C hH hS (by decide) (show DSC[183]? = _ from rfl) (by decide) rfl tyX2_ok (by decide +kernel) (fun k => ch_eq) (fun j k hj => ch_ne (Nat.ne_of_lt hj)) wd_436 wd_437 wd_112 (Nat.le_of_ble_eq_true rfl) (Nat.le_of_ble_eq_true rfl) dX11_init_155 (fun H hH hS => ?_)
  replace hH : Hd (ωk G DSC B 1 184 E (ch 183 (nf 1 [12, 13, 14]))) μ71 H := Hd.to e72 hH
  refine lv_dup hx hb dX11_init_158 rfl ?_
  have hq := b1_e h; clear h; obtain ⟨μ73, e74, h⟩ := hq
  refine k_init (as := []) (rest := [.ref (B + 183), .ref (B + 1)]) (N' := (nf 1 [12, 13, 14])) (i_X2 hE (lay_sub (i := 0) (L := DSC) (Lc := LPairs) 183 (fun r x h => by rw [Nat.zero_add]; exact h) (by decide +kernel)) e74) hok (Cx.ofk hok C) hl.1 (by decide) hH (fun k => ch_eq) (fun j k hj => (ch_ne (Nat.ne_of_lt hj)).symm) (fun j k hj => nf_ne (Nat.ne_of_gt (Nat.lt_of_lt_of_le (by decide) hj))) hS rfl mw_X2_init rfl wd_439 wd_438 rfl (rmc_ok (by decide) (by decide)) (Nat.le_of_ble_eq_true rfl) ⟨Nat.le_of_ble_eq_true rfl, Nat.le_of_ble_eq_true rfl⟩ dX11_init_159 (fun H locs hH hS => ?_)
  have hq := bd_e h; clear h; obtain ⟨μ75, e76, h⟩ := hq
  replace hH : Hd (ωk G DSC B 1 186 E (nf 1 [12, 13, 14])) μ75 H := Hd.to e76 hH
  replace hS : FS (ωk G DSC B 1 186 E (nf 1 [12, 13, 14])) s H locs := hS
  replace C : Cx (ωk G DSC B 1 186 E (nf 1 [12, 13, 14])) p s m args c cX11_init 1 RX11 := Cx.ofk hok C
  refine k_putr hin2 (k := 12) (Rem := [13, 14]) (ty := tyX11 12) (rest := []) C hH hS (show DSC[1]? = _ from rfl) (by decide) rfl (show 12 < 17 by decide) rfl wd_486 rfl rfl rfl (by decide) rfl (by decide) (by decide) dX11_init_162 (fun H locs hH hS => ?_)
  replace hS : FS (ωk G DSC B 1 186 E (nf 1 [13, 14])) s H locs := hS
  replace C : Cx (ωk G DSC B 1 186 E (nf 1 [13, 14])) p s m args c cX11_init 1 RX11 := Cx.ofk hok C
  replace hH : Hd (ωk G DSC B 1 186 E (nf 1 [13, 14])) μ75 H := hH
  refine lv_aload_n hx hb dX11_init_165 rfl (lv_at hl 0 rfl) ?_
  have hq := bd_e h; clear h; obtain ⟨μ77, e78, h⟩ := hq
  refine k_new (N' := ch 186 (nf 1 [13, 14])) (ty := tyX9) (r := (RX9, TX9, 4)) (rest := [.ref (B + 1)]) C hH hS (by decide) (show DSC[186]? = _ from rfl) (by decide) rfl tyX9_ok (by decide +kernel) (fun k => ch_eq) (fun j k hj => ch_ne (Nat.ne_of_lt hj)) wd_454 wd_455 wd_113 (Nat.le_of_ble_eq_true rfl) (Nat.le_of_ble_eq_true rfl) dX11_init_166 (fun H hH hS => ?_)
  replace hH : Hd (ωk G DSC B 1 187 E (ch 186 (nf 1 [13, 14]))) μ77 H := Hd.to e78 hH
  refine lv_dup hx hb dX11_init_169 rfl ?_
  have hq := b1_e h; clear h; obtain ⟨μ79, e80, h⟩ := hq
  refine k_init (as := []) (rest := [.ref (B + 186), .ref (B + 1)]) (N' := (nf 1 [13, 14])) (i_X9 hE (lay_sub (i := 0) (L := DSC) (Lc := LTold) 186 (fun r x h => by rw [Nat.zero_add]; exact h) (by decide +kernel)) e80) hok (Cx.ofk hok C) hl.1 (by decide) hH (fun k => ch_eq) (fun j k hj => (ch_ne (Nat.ne_of_lt hj)).symm) (fun j k hj => nf_ne (Nat.ne_of_gt (Nat.lt_of_lt_of_le (by decide) hj))) hS rfl mw_X9_init rfl wd_457 wd_456 rfl (rmc_ok (by decide) (by decide)) (Nat.le_of_ble_eq_true rfl) ⟨Nat.le_of_ble_eq_true rfl, Nat.le_of_ble_eq_true rfl⟩ dX11_init_170 (fun H locs hH hS => ?_)
  have hq := bd_e h; clear h; obtain ⟨μ81, e82, h⟩ := hq
  replace hH : Hd (ωk G DSC B 1 190 E (nf 1 [13, 14])) μ81 H := Hd.to e82 hH
  replace hS : FS (ωk G DSC B 1 190 E (nf 1 [13, 14])) s H locs := hS
  replace C : Cx (ωk G DSC B 1 190 E (nf 1 [13, 14])) p s m args c cX11_init 1 RX11 := Cx.ofk hok C
  refine k_putr hin2 (k := 13) (Rem := [14]) (ty := tyX11 13) (rest := []) C hH hS (show DSC[1]? = _ from rfl) (by decide) rfl (show 13 < 17 by decide) rfl wd_487 rfl rfl rfl (by decide) rfl (by decide) (by decide) dX11_init_173 (fun H locs hH hS => ?_)
  replace hS : FS (ωk G DSC B 1 190 E (nf 1 [14])) s H locs := hS
  replace C : Cx (ωk G DSC B 1 190 E (nf 1 [14])) p s m args c cX11_init 1 RX11 := Cx.ofk hok C
  replace hH : Hd (ωk G DSC B 1 190 E (nf 1 [14])) μ81 H := hH
  refine lv_aload_n hx hb dX11_init_176 rfl (lv_at hl 0 rfl) ?_
  refine lv_iconst (v := 3) hx hb dX11_init_177 (by decide) ?_
  have hq := bd_e h; clear h; obtain ⟨μ83, e84, h⟩ := hq
  refine k_newa (atype := .int) (rest := [.ref (B + 1)]) hE C hH hS (by decide) (show DSC[190]? = _ from rfl) rfl (by decide) (by decide) wd_210 (by decide) (by decide) (by decide) (Nat.le_of_ble_eq_true rfl) (Nat.le_of_ble_eq_true rfl) dX11_init_178 (fun H hH hS => ?_)
  replace hH : Hd (ωk G DSC B 1 191 E (nf 1 [14])) μ83 H := Hd.to e84 hH
  replace hS : FS (ωk G DSC B 1 191 E (nf 1 [14])) s H locs := hS
  replace C : Cx (ωk G DSC B 1 191 E (nf 1 [14])) p s m args c cX11_init 1 RX11 := Cx.ofk hok C
  refine k_putr hin2 (k := 14) (Rem := []) (ty := tyX11 14) (rest := []) C hH hS (show DSC[1]? = _ from rfl) (by decide) rfl (show 14 < 17 by decide) rfl wd_488 rfl rfl rfl (by decide) rfl (by decide) (by decide) dX11_init_180 (fun H locs hH hS => ?_)
  replace hS : FS (ωk G DSC B 1 191 E (nf 1 [])) s H locs := hS
  replace C : Cx (ωk G DSC B 1 191 E (nf 1 [])) p s m args c cX11_init 1 RX11 := Cx.ofk hok C
  replace hH : Hd (ωk G DSC B 1 191 E (nf 1 [])) μ83 H := hH
  refine lv_aload_n hx hb dX11_init_183 rfl (lv_at hl 0 rfl) ?_
  refine lv_iconst (v := 0) hx hb dX11_init_184 (by decide) ?_
  have hq := bd_e h; clear h; obtain ⟨μ85, e86, h⟩ := hq
  refine h_puti (ty := .int) (j := 1) (k := 15) (rest := []) C hH hS ⟨by decide, by decide⟩ (show DSC[1]? = _ from rfl) (by decide) rfl (show 15 < 17 by decide) rfl rfl wd_489 rfl rfl rfl dX11_init_185 (fun H locs hH hS => ?_)
  replace hH : Hd (ωk G DSC B 1 191 E (nf 1 [])) μ85 H := Hd.to e86 hH
  replace hS : FS (ωk G DSC B 1 191 E (nf 1 [])) s H locs := hS
  replace C : Cx (ωk G DSC B 1 191 E (nf 1 [])) p s m args c cX11_init 1 RX11 := Cx.ofk hok C
  refine lv_aload_n hx hb dX11_init_188 rfl (lv_at hl 0 rfl) ?_
  refine lv_iconst (v := (-1)) hx hb dX11_init_189 (by decide) ?_
  have hq := bd_e h; clear h; obtain ⟨μ87, e88, h⟩ := hq
  refine h_puti (ty := .int) (j := 1) (k := 16) (rest := []) C hH hS ⟨by decide, by decide⟩ (show DSC[1]? = _ from rfl) (by decide) rfl (show 16 < 17 by decide) rfl rfl wd_490 rfl rfl rfl dX11_init_190 (fun H locs hH hS => ?_)
  replace hH : Hd (ωk G DSC B 1 191 E (nf 1 [])) μ87 H := Hd.to e88 hH
  replace hS : FS (ωk G DSC B 1 191 E (nf 1 [])) s H locs := hS
  replace C : Cx (ωk G DSC B 1 191 E (nf 1 [])) p s m args c cX11_init 1 RX11 := Cx.ofk hok C
  cases h
  exact k_ret (len := 190) C hr hlk hH hS (by first | rfl | omega) (fun j k => nf_nil) (by first | rfl | omega) (by first | rfl | omega) dX11_init_193
theorem dX12_init_0 : decode cX12_init 0 = .ok (.aload_n 0, 1) := by decide +kernel
theorem dX12_init_1 : decode cX12_init 1 = .ok (.invokespecial 7, 3) := by decide +kernel
theorem dX12_init_4 : decode cX12_init 4 = .ok (.aload_n 0, 1) := by decide +kernel
theorem dX12_init_5 : decode cX12_init 5 = .ok (.sipush 2000, 3) := by decide +kernel
theorem dX12_init_8 : decode cX12_init 8 = .ok (.newarray .byte, 2) := by decide +kernel
theorem dX12_init_10 : decode cX12_init 10 = .ok (.putfield 13, 3) := by decide +kernel
theorem dX12_init_13 : decode cX12_init 13 = .ok (.aload_n 0, 1) := by decide +kernel
theorem dX12_init_14 : decode cX12_init 14 = .ok (.sipush 2000, 3) := by decide +kernel
theorem dX12_init_17 : decode cX12_init 17 = .ok (.newarray .byte, 2) := by decide +kernel
theorem dX12_init_19 : decode cX12_init 19 = .ok (.putfield 17, 3) := by decide +kernel
theorem dX12_init_22 : decode cX12_init 22 = .ok (.aload_n 0, 1) := by decide +kernel
theorem dX12_init_23 : decode cX12_init 23 = .ok (.sipush 403, 3) := by decide +kernel
theorem dX12_init_26 : decode cX12_init 26 = .ok (.newarray .int, 2) := by decide +kernel
theorem dX12_init_28 : decode cX12_init 28 = .ok (.putfield 20, 3) := by decide +kernel
theorem dX12_init_31 : decode cX12_init 31 = .ok (.aload_n 0, 1) := by decide +kernel
theorem dX12_init_32 : decode cX12_init 32 = .ok (.sipush 403, 3) := by decide +kernel
theorem dX12_init_35 : decode cX12_init 35 = .ok (.newarray .int, 2) := by decide +kernel
theorem dX12_init_37 : decode cX12_init 37 = .ok (.putfield 24, 3) := by decide +kernel
theorem dX12_init_40 : decode cX12_init 40 = .ok (.aload_n 0, 1) := by decide +kernel
theorem dX12_init_41 : decode cX12_init 41 = .ok (.sipush 403, 3) := by decide +kernel
theorem dX12_init_44 : decode cX12_init 44 = .ok (.newarray .int, 2) := by decide +kernel
theorem dX12_init_46 : decode cX12_init 46 = .ok (.putfield 27, 3) := by decide +kernel
theorem dX12_init_49 : decode cX12_init 49 = .ok (.aload_n 0, 1) := by decide +kernel
theorem dX12_init_50 : decode cX12_init 50 = .ok (.sipush 403, 3) := by decide +kernel
theorem dX12_init_53 : decode cX12_init 53 = .ok (.newarray .long, 2) := by decide +kernel
theorem dX12_init_55 : decode cX12_init 55 = .ok (.putfield 30, 3) := by decide +kernel
theorem dX12_init_58 : decode cX12_init 58 = .ok (.aload_n 0, 1) := by decide +kernel
theorem dX12_init_59 : decode cX12_init 59 = .ok (.bipush 21, 2) := by decide +kernel
theorem dX12_init_61 : decode cX12_init 61 = .ok (.newarray .long, 2) := by decide +kernel
theorem dX12_init_63 : decode cX12_init 63 = .ok (.putfield 34, 3) := by decide +kernel
theorem dX12_init_66 : decode cX12_init 66 = .ok (.aload_n 0, 1) := by decide +kernel
theorem dX12_init_67 : decode cX12_init 67 = .ok (.iconst (-1), 1) := by decide +kernel
theorem dX12_init_68 : decode cX12_init 68 = .ok (.putfield 37, 3) := by decide +kernel
theorem dX12_init_71 : decode cX12_init 71 = .ok (.aload_n 0, 1) := by decide +kernel
theorem dX12_init_72 : decode cX12_init 72 = .ok (.bipush 6, 2) := by decide +kernel
theorem dX12_init_74 : decode cX12_init 74 = .ok (.newarray .long, 2) := by decide +kernel
theorem dX12_init_76 : decode cX12_init 76 = .ok (.putfield 40, 3) := by decide +kernel
theorem dX12_init_79 : decode cX12_init 79 = .ok (.aload_n 0, 1) := by decide +kernel
theorem dX12_init_80 : decode cX12_init 80 = .ok (.iconst 2, 1) := by decide +kernel
theorem dX12_init_81 : decode cX12_init 81 = .ok (.newarray .int, 2) := by decide +kernel
theorem dX12_init_83 : decode cX12_init 83 = .ok (.putfield 43, 3) := by decide +kernel
theorem dX12_init_86 : decode cX12_init 86 = .ok (.aload_n 0, 1) := by decide +kernel
theorem dX12_init_87 : decode cX12_init 87 = .ok (.bipush 12, 2) := by decide +kernel
theorem dX12_init_89 : decode cX12_init 89 = .ok (.newarray .int, 2) := by decide +kernel
theorem dX12_init_91 : decode cX12_init 91 = .ok (.putfield 46, 3) := by decide +kernel
theorem dX12_init_94 : decode cX12_init 94 = .ok (.aload_n 0, 1) := by decide +kernel
theorem dX12_init_95 : decode cX12_init 95 = .ok (.bipush 12, 2) := by decide +kernel
theorem dX12_init_97 : decode cX12_init 97 = .ok (.newarray .int, 2) := by decide +kernel
theorem dX12_init_99 : decode cX12_init 99 = .ok (.putfield 49, 3) := by decide +kernel
theorem dX12_init_102 : decode cX12_init 102 = .ok (.aload_n 0, 1) := by decide +kernel
theorem dX12_init_103 : decode cX12_init 103 = .ok (.bipush 12, 2) := by decide +kernel
theorem dX12_init_105 : decode cX12_init 105 = .ok (.newarray .int, 2) := by decide +kernel
theorem dX12_init_107 : decode cX12_init 107 = .ok (.putfield 52, 3) := by decide +kernel
theorem dX12_init_110 : decode cX12_init 110 = .ok (.aload_n 0, 1) := by decide +kernel
theorem dX12_init_111 : decode cX12_init 111 = .ok (.bipush 12, 2) := by decide +kernel
theorem dX12_init_113 : decode cX12_init 113 = .ok (.newarray .int, 2) := by decide +kernel
theorem dX12_init_115 : decode cX12_init 115 = .ok (.putfield 55, 3) := by decide +kernel
theorem dX12_init_118 : decode cX12_init 118 = .ok (.aload_n 0, 1) := by decide +kernel
theorem dX12_init_119 : decode cX12_init 119 = .ok (.bipush 12, 2) := by decide +kernel
theorem dX12_init_121 : decode cX12_init 121 = .ok (.newarray .int, 2) := by decide +kernel
theorem dX12_init_123 : decode cX12_init 123 = .ok (.putfield 58, 3) := by decide +kernel
theorem dX12_init_126 : decode cX12_init 126 = .ok (.aload_n 0, 1) := by decide +kernel
theorem dX12_init_127 : decode cX12_init 127 = .ok (.iconst 2, 1) := by decide +kernel
theorem dX12_init_128 : decode cX12_init 128 = .ok (.newarray .int, 2) := by decide +kernel
theorem dX12_init_130 : decode cX12_init 130 = .ok (.putfield 61, 3) := by decide +kernel
theorem dX12_init_133 : decode cX12_init 133 = .ok (.aload_n 0, 1) := by decide +kernel
theorem dX12_init_134 : decode cX12_init 134 = .ok (.iconst 2, 1) := by decide +kernel
theorem dX12_init_135 : decode cX12_init 135 = .ok (.newarray .int, 2) := by decide +kernel
theorem dX12_init_137 : decode cX12_init 137 = .ok (.putfield 64, 3) := by decide +kernel
theorem dX12_init_140 : decode cX12_init 140 = .ok (.aload_n 0, 1) := by decide +kernel
theorem dX12_init_141 : decode cX12_init 141 = .ok (.iconst 2, 1) := by decide +kernel
theorem dX12_init_142 : decode cX12_init 142 = .ok (.newarray .int, 2) := by decide +kernel
theorem dX12_init_144 : decode cX12_init 144 = .ok (.putfield 67, 3) := by decide +kernel
theorem dX12_init_147 : decode cX12_init 147 = .ok (.aload_n 0, 1) := by decide +kernel
theorem dX12_init_148 : decode cX12_init 148 = .ok (.iconst 2, 1) := by decide +kernel
theorem dX12_init_149 : decode cX12_init 149 = .ok (.newarray .int, 2) := by decide +kernel
theorem dX12_init_151 : decode cX12_init 151 = .ok (.putfield 70, 3) := by decide +kernel
theorem dX12_init_154 : decode cX12_init 154 = .ok (.aload_n 0, 1) := by decide +kernel
theorem dX12_init_155 : decode cX12_init 155 = .ok (.bipush 8, 2) := by decide +kernel
theorem dX12_init_157 : decode cX12_init 157 = .ok (.newarray .int, 2) := by decide +kernel
theorem dX12_init_159 : decode cX12_init 159 = .ok (.putfield 73, 3) := by decide +kernel
theorem dX12_init_162 : decode cX12_init 162 = .ok (.aload_n 0, 1) := by decide +kernel
theorem dX12_init_163 : decode cX12_init 163 = .ok (.bipush 8, 2) := by decide +kernel
theorem dX12_init_165 : decode cX12_init 165 = .ok (.newarray .int, 2) := by decide +kernel
theorem dX12_init_167 : decode cX12_init 167 = .ok (.putfield 76, 3) := by decide +kernel
theorem dX12_init_170 : decode cX12_init 170 = .ok (.aload_n 0, 1) := by decide +kernel
theorem dX12_init_171 : decode cX12_init 171 = .ok (.sipush 260, 3) := by decide +kernel
theorem dX12_init_174 : decode cX12_init 174 = .ok (.newarray .boolean, 2) := by decide +kernel
theorem dX12_init_176 : decode cX12_init 176 = .ok (.putfield 79, 3) := by decide +kernel
theorem dX12_init_179 : decode cX12_init 179 = .ok (.aload_n 0, 1) := by decide +kernel
theorem dX12_init_180 : decode cX12_init 180 = .ok (.sipush 260, 3) := by decide +kernel
theorem dX12_init_183 : decode cX12_init 183 = .ok (.newarray .int, 2) := by decide +kernel
theorem dX12_init_185 : decode cX12_init 185 = .ok (.putfield 83, 3) := by decide +kernel
theorem dX12_init_188 : decode cX12_init 188 = .ok (.aload_n 0, 1) := by decide +kernel
theorem dX12_init_189 : decode cX12_init 189 = .ok (.sipush 260, 3) := by decide +kernel
theorem dX12_init_192 : decode cX12_init 192 = .ok (.newarray .int, 2) := by decide +kernel
theorem dX12_init_194 : decode cX12_init 194 = .ok (.putfield 86, 3) := by decide +kernel
theorem dX12_init_197 : decode cX12_init 197 = .ok (.aload_n 0, 1) := by decide +kernel
theorem dX12_init_198 : decode cX12_init 198 = .ok (.sipush 260, 3) := by decide +kernel
theorem dX12_init_201 : decode cX12_init 201 = .ok (.newarray .int, 2) := by decide +kernel
theorem dX12_init_203 : decode cX12_init 203 = .ok (.putfield 89, 3) := by decide +kernel
theorem dX12_init_206 : decode cX12_init 206 = .ok (.aload_n 0, 1) := by decide +kernel
theorem dX12_init_207 : decode cX12_init 207 = .ok (.sipush 260, 3) := by decide +kernel
theorem dX12_init_210 : decode cX12_init 210 = .ok (.newarray .int, 2) := by decide +kernel
theorem dX12_init_212 : decode cX12_init 212 = .ok (.putfield 92, 3) := by decide +kernel
theorem dX12_init_215 : decode cX12_init 215 = .ok (.aload_n 0, 1) := by decide +kernel
theorem dX12_init_216 : decode cX12_init 216 = .ok (.sipush 840, 3) := by decide +kernel
theorem dX12_init_219 : decode cX12_init 219 = .ok (.newarray .int, 2) := by decide +kernel
theorem dX12_init_221 : decode cX12_init 221 = .ok (.putfield 95, 3) := by decide +kernel
theorem dX12_init_224 : decode cX12_init 224 = .ok (.aload_n 0, 1) := by decide +kernel
theorem dX12_init_225 : decode cX12_init 225 = .ok (.sipush 840, 3) := by decide +kernel
theorem dX12_init_228 : decode cX12_init 228 = .ok (.newarray .int, 2) := by decide +kernel
theorem dX12_init_230 : decode cX12_init 230 = .ok (.putfield 98, 3) := by decide +kernel
theorem dX12_init_233 : decode cX12_init 233 = .ok (.aload_n 0, 1) := by decide +kernel
theorem dX12_init_234 : decode cX12_init 234 = .ok (.bipush 64, 2) := by decide +kernel
theorem dX12_init_236 : decode cX12_init 236 = .ok (.newarray .int, 2) := by decide +kernel
theorem dX12_init_238 : decode cX12_init 238 = .ok (.putfield 101, 3) := by decide +kernel
theorem dX12_init_241 : decode cX12_init 241 = .ok (.aload_n 0, 1) := by decide +kernel
theorem dX12_init_242 : decode cX12_init 242 = .ok (.bipush 9, 2) := by decide +kernel
theorem dX12_init_244 : decode cX12_init 244 = .ok (.newarray .int, 2) := by decide +kernel
theorem dX12_init_246 : decode cX12_init 246 = .ok (.putfield 104, 3) := by decide +kernel
theorem dX12_init_249 : decode cX12_init 249 = .ok (.aload_n 0, 1) := by decide +kernel
theorem dX12_init_250 : decode cX12_init 250 = .ok (.sipush 400, 3) := by decide +kernel
theorem dX12_init_253 : decode cX12_init 253 = .ok (.newarray .int, 2) := by decide +kernel
theorem dX12_init_255 : decode cX12_init 255 = .ok (.putfield 107, 3) := by decide +kernel
theorem dX12_init_258 : decode cX12_init 258 = .ok (.aload_n 0, 1) := by decide +kernel
theorem dX12_init_259 : decode cX12_init 259 = .ok (.bipush 39, 2) := by decide +kernel
theorem dX12_init_261 : decode cX12_init 261 = .ok (.newarray .int, 2) := by decide +kernel
theorem dX12_init_263 : decode cX12_init 263 = .ok (.putfield 110, 3) := by decide +kernel
theorem dX12_init_266 : decode cX12_init 266 = .ok (.aload_n 0, 1) := by decide +kernel
theorem dX12_init_267 : decode cX12_init 267 = .ok (.bipush 39, 2) := by decide +kernel
theorem dX12_init_269 : decode cX12_init 269 = .ok (.newarray .int, 2) := by decide +kernel
theorem dX12_init_271 : decode cX12_init 271 = .ok (.putfield 113, 3) := by decide +kernel
theorem dX12_init_274 : decode cX12_init 274 = .ok (.aload_n 0, 1) := by decide +kernel
theorem dX12_init_275 : decode cX12_init 275 = .ok (.bipush 6, 2) := by decide +kernel
theorem dX12_init_277 : decode cX12_init 277 = .ok (.newarray .int, 2) := by decide +kernel
theorem dX12_init_279 : decode cX12_init 279 = .ok (.putfield 116, 3) := by decide +kernel
theorem dX12_init_282 : decode cX12_init 282 = .ok (.aload_n 0, 1) := by decide +kernel
theorem dX12_init_283 : decode cX12_init 283 = .ok (.bipush 6, 2) := by decide +kernel
theorem dX12_init_285 : decode cX12_init 285 = .ok (.newarray .int, 2) := by decide +kernel
theorem dX12_init_287 : decode cX12_init 287 = .ok (.putfield 119, 3) := by decide +kernel
theorem dX12_init_290 : decode cX12_init 290 = .ok (.aload_n 0, 1) := by decide +kernel
theorem dX12_init_291 : decode cX12_init 291 = .ok (.sipush 1560, 3) := by decide +kernel
theorem dX12_init_294 : decode cX12_init 294 = .ok (.newarray .int, 2) := by decide +kernel
theorem dX12_init_296 : decode cX12_init 296 = .ok (.putfield 122, 3) := by decide +kernel
theorem dX12_init_299 : decode cX12_init 299 = .ok (.aload_n 0, 1) := by decide +kernel
theorem dX12_init_300 : decode cX12_init 300 = .ok (.sipush 186, 3) := by decide +kernel
theorem dX12_init_303 : decode cX12_init 303 = .ok (.newarray .int, 2) := by decide +kernel
theorem dX12_init_305 : decode cX12_init 305 = .ok (.putfield 125, 3) := by decide +kernel
theorem dX12_init_308 : decode cX12_init 308 = .ok (.aload_n 0, 1) := by decide +kernel
theorem dX12_init_309 : decode cX12_init 309 = .ok (.sipush 217, 3) := by decide +kernel
theorem dX12_init_312 : decode cX12_init 312 = .ok (.newarray .int, 2) := by decide +kernel
theorem dX12_init_314 : decode cX12_init 314 = .ok (.putfield 128, 3) := by decide +kernel
theorem dX12_init_317 : decode cX12_init 317 = .ok (.aload_n 0, 1) := by decide +kernel
theorem dX12_init_318 : decode cX12_init 318 = .ok (.bipush 39, 2) := by decide +kernel
theorem dX12_init_320 : decode cX12_init 320 = .ok (.newarray .int, 2) := by decide +kernel
theorem dX12_init_322 : decode cX12_init 322 = .ok (.putfield 131, 3) := by decide +kernel
theorem dX12_init_325 : decode cX12_init 325 = .ok (.aload_n 0, 1) := by decide +kernel
theorem dX12_init_326 : decode cX12_init 326 = .ok (.sipush 384, 3) := by decide +kernel
theorem dX12_init_329 : decode cX12_init 329 = .ok (.newarray .int, 2) := by decide +kernel
theorem dX12_init_331 : decode cX12_init 331 = .ok (.putfield 134, 3) := by decide +kernel
theorem dX12_init_334 : decode cX12_init 334 = .ok (.aload_n 0, 1) := by decide +kernel
theorem dX12_init_335 : decode cX12_init 335 = .ok (.bipush 6, 2) := by decide +kernel
theorem dX12_init_337 : decode cX12_init 337 = .ok (.newarray .int, 2) := by decide +kernel
theorem dX12_init_339 : decode cX12_init 339 = .ok (.putfield 137, 3) := by decide +kernel
theorem dX12_init_342 : decode cX12_init 342 = .ok (.aload_n 0, 1) := by decide +kernel
theorem dX12_init_343 : decode cX12_init 343 = .ok (.bipush 6, 2) := by decide +kernel
theorem dX12_init_345 : decode cX12_init 345 = .ok (.newarray .int, 2) := by decide +kernel
theorem dX12_init_347 : decode cX12_init 347 = .ok (.putfield 140, 3) := by decide +kernel
theorem dX12_init_350 : decode cX12_init 350 = .ok (.aload_n 0, 1) := by decide +kernel
theorem dX12_init_351 : decode cX12_init 351 = .ok (.bipush 6, 2) := by decide +kernel
theorem dX12_init_353 : decode cX12_init 353 = .ok (.newarray .int, 2) := by decide +kernel
theorem dX12_init_355 : decode cX12_init 355 = .ok (.putfield 143, 3) := by decide +kernel
theorem dX12_init_358 : decode cX12_init 358 = .ok (.aload_n 0, 1) := by decide +kernel
theorem dX12_init_359 : decode cX12_init 359 = .ok (.bipush 64, 2) := by decide +kernel
theorem dX12_init_361 : decode cX12_init 361 = .ok (.newarray .int, 2) := by decide +kernel
theorem dX12_init_363 : decode cX12_init 363 = .ok (.putfield 146, 3) := by decide +kernel
theorem dX12_init_366 : decode cX12_init 366 = .ok (.aload_n 0, 1) := by decide +kernel
theorem dX12_init_367 : decode cX12_init 367 = .ok (.bipush 20, 2) := by decide +kernel
theorem dX12_init_369 : decode cX12_init 369 = .ok (.newarray .int, 2) := by decide +kernel
theorem dX12_init_371 : decode cX12_init 371 = .ok (.putfield 149, 3) := by decide +kernel
theorem dX12_init_374 : decode cX12_init 374 = .ok (.aload_n 0, 1) := by decide +kernel
theorem dX12_init_375 : decode cX12_init 375 = .ok (.bipush 20, 2) := by decide +kernel
theorem dX12_init_377 : decode cX12_init 377 = .ok (.newarray .int, 2) := by decide +kernel
theorem dX12_init_379 : decode cX12_init 379 = .ok (.putfield 152, 3) := by decide +kernel
theorem dX12_init_382 : decode cX12_init 382 = .ok (.aload_n 0, 1) := by decide +kernel
theorem dX12_init_383 : decode cX12_init 383 = .ok (.bipush 20, 2) := by decide +kernel
theorem dX12_init_385 : decode cX12_init 385 = .ok (.newarray .boolean, 2) := by decide +kernel
theorem dX12_init_387 : decode cX12_init 387 = .ok (.putfield 155, 3) := by decide +kernel
theorem dX12_init_390 : decode cX12_init 390 = .ok (.aload_n 0, 1) := by decide +kernel
theorem dX12_init_391 : decode cX12_init 391 = .ok (.iconst 3, 1) := by decide +kernel
theorem dX12_init_392 : decode cX12_init 392 = .ok (.newarray .boolean, 2) := by decide +kernel
theorem dX12_init_394 : decode cX12_init 394 = .ok (.putfield 158, 3) := by decide +kernel
theorem dX12_init_397 : decode cX12_init 397 = .ok (.aload_n 0, 1) := by decide +kernel
theorem dX12_init_398 : decode cX12_init 398 = .ok (.bipush 117, 2) := by decide +kernel
theorem dX12_init_400 : decode cX12_init 400 = .ok (.newarray .int, 2) := by decide +kernel
theorem dX12_init_402 : decode cX12_init 402 = .ok (.putfield 161, 3) := by decide +kernel
theorem dX12_init_405 : decode cX12_init 405 = .ok (.aload_n 0, 1) := by decide +kernel
theorem dX12_init_406 : decode cX12_init 406 = .ok (.iconst 0, 1) := by decide +kernel
theorem dX12_init_407 : decode cX12_init 407 = .ok (.invokevirtual 164, 3) := by decide +kernel
theorem dX12_init_410 : decode cX12_init 410 = .ok (.aload_n 0, 1) := by decide +kernel
theorem dX12_init_411 : decode cX12_init 411 = .ok (.iconst 1, 1) := by decide +kernel
theorem dX12_init_412 : decode cX12_init 412 = .ok (.invokevirtual 164, 3) := by decide +kernel
theorem dX12_init_415 : decode cX12_init 415 = .ok (.aload_n 0, 1) := by decide +kernel
theorem dX12_init_416 : decode cX12_init 416 = .ok (.getfield 34, 3) := by decide +kernel
theorem dX12_init_419 : decode cX12_init 419 = .ok (.iconst 0, 1) := by decide +kernel
theorem dX12_init_420 : decode cX12_init 420 = .ok (.bipush 104, 2) := by decide +kernel
theorem dX12_init_422 : decode cX12_init 422 = .ok (.bipush 111, 2) := by decide +kernel
theorem dX12_init_424 : decode cX12_init 424 = .ok (.bipush 117, 2) := by decide +kernel
theorem dX12_init_426 : decode cX12_init 426 = .ok (.bipush 115, 2) := by decide +kernel
theorem dX12_init_428 : decode cX12_init 428 = .ok (.bipush 101, 2) := by decide +kernel
theorem dX12_init_430 : decode cX12_init 430 = .ok (.iconst 0, 1) := by decide +kernel
theorem dX12_init_431 : decode cX12_init 431 = .ok (.iconst 0, 1) := by decide +kernel
theorem dX12_init_432 : decode cX12_init 432 = .ok (.invokestatic 168, 3) := by decide +kernel
theorem dX12_init_435 : decode cX12_init 435 = .ok (.lastore, 1) := by decide +kernel
theorem dX12_init_436 : decode cX12_init 436 = .ok (.aload_n 0, 1) := by decide +kernel
theorem dX12_init_437 : decode cX12_init 437 = .ok (.getfield 34, 3) := by decide +kernel
theorem dX12_init_440 : decode cX12_init 440 = .ok (.iconst 1, 1) := by decide +kernel
theorem dX12_init_441 : decode cX12_init 441 = .ok (.bipush 99, 2) := by decide +kernel
theorem dX12_init_443 : decode cX12_init 443 = .ok (.bipush 111, 2) := by decide +kernel
theorem dX12_init_445 : decode cX12_init 445 = .ok (.bipush 111, 2) := by decide +kernel
theorem dX12_init_447 : decode cX12_init 447 = .ok (.bipush 108, 2) := by decide +kernel
theorem dX12_init_449 : decode cX12_init 449 = .ok (.bipush 115, 2) := by decide +kernel
theorem dX12_init_451 : decode cX12_init 451 = .ok (.iconst 0, 1) := by decide +kernel
theorem dX12_init_452 : decode cX12_init 452 = .ok (.iconst 0, 1) := by decide +kernel
theorem dX12_init_453 : decode cX12_init 453 = .ok (.invokestatic 168, 3) := by decide +kernel
theorem dX12_init_456 : decode cX12_init 456 = .ok (.lastore, 1) := by decide +kernel
theorem dX12_init_457 : decode cX12_init 457 = .ok (.aload_n 0, 1) := by decide +kernel
theorem dX12_init_458 : decode cX12_init 458 = .ok (.getfield 34, 3) := by decide +kernel
theorem dX12_init_461 : decode cX12_init 461 = .ok (.iconst 2, 1) := by decide +kernel
theorem dX12_init_462 : decode cX12_init 462 = .ok (.bipush 119, 2) := by decide +kernel
theorem dX12_init_464 : decode cX12_init 464 = .ok (.bipush 97, 2) := by decide +kernel
theorem dX12_init_466 : decode cX12_init 466 = .ok (.bipush 114, 2) := by decide +kernel
theorem dX12_init_468 : decode cX12_init 468 = .ok (.bipush 109, 2) := by decide +kernel
theorem dX12_init_470 : decode cX12_init 470 = .ok (.bipush 115, 2) := by decide +kernel
theorem dX12_init_472 : decode cX12_init 472 = .ok (.iconst 0, 1) := by decide +kernel
theorem dX12_init_473 : decode cX12_init 473 = .ok (.iconst 0, 1) := by decide +kernel
theorem dX12_init_474 : decode cX12_init 474 = .ok (.invokestatic 168, 3) := by decide +kernel
theorem dX12_init_477 : decode cX12_init 477 = .ok (.lastore, 1) := by decide +kernel
theorem dX12_init_478 : decode cX12_init 478 = .ok (.aload_n 0, 1) := by decide +kernel
theorem dX12_init_479 : decode cX12_init 479 = .ok (.getfield 34, 3) := by decide +kernel
theorem dX12_init_482 : decode cX12_init 482 = .ok (.iconst 3, 1) := by decide +kernel
theorem dX12_init_483 : decode cX12_init 483 = .ok (.bipush 102, 2) := by decide +kernel
theorem dX12_init_485 : decode cX12_init 485 = .ok (.bipush 97, 2) := by decide +kernel
theorem dX12_init_487 : decode cX12_init 487 = .ok (.bipush 100, 2) := by decide +kernel
theorem dX12_init_489 : decode cX12_init 489 = .ok (.bipush 101, 2) := by decide +kernel
theorem dX12_init_491 : decode cX12_init 491 = .ok (.bipush 115, 2) := by decide +kernel
theorem dX12_init_493 : decode cX12_init 493 = .ok (.iconst 0, 1) := by decide +kernel
theorem dX12_init_494 : decode cX12_init 494 = .ok (.iconst 0, 1) := by decide +kernel
theorem dX12_init_495 : decode cX12_init 495 = .ok (.invokestatic 168, 3) := by decide +kernel
theorem dX12_init_498 : decode cX12_init 498 = .ok (.lastore, 1) := by decide +kernel
theorem dX12_init_499 : decode cX12_init 499 = .ok (.aload_n 0, 1) := by decide +kernel
theorem dX12_init_500 : decode cX12_init 500 = .ok (.getfield 34, 3) := by decide +kernel
theorem dX12_init_503 : decode cX12_init 503 = .ok (.iconst 4, 1) := by decide +kernel
theorem dX12_init_504 : decode cX12_init 504 = .ok (.bipush 109, 2) := by decide +kernel
theorem dX12_init_506 : decode cX12_init 506 = .ok (.bipush 101, 2) := by decide +kernel
theorem dX12_init_508 : decode cX12_init 508 = .ok (.bipush 110, 2) := by decide +kernel
theorem dX12_init_510 : decode cX12_init 510 = .ok (.bipush 100, 2) := by decide +kernel
theorem dX12_init_512 : decode cX12_init 512 = .ok (.bipush 115, 2) := by decide +kernel
theorem dX12_init_514 : decode cX12_init 514 = .ok (.iconst 0, 1) := by decide +kernel
theorem dX12_init_515 : decode cX12_init 515 = .ok (.iconst 0, 1) := by decide +kernel
theorem dX12_init_516 : decode cX12_init 516 = .ok (.invokestatic 168, 3) := by decide +kernel
theorem dX12_init_519 : decode cX12_init 519 = .ok (.lastore, 1) := by decide +kernel
theorem dX12_init_520 : decode cX12_init 520 = .ok (.aload_n 0, 1) := by decide +kernel
theorem dX12_init_521 : decode cX12_init 521 = .ok (.getfield 34, 3) := by decide +kernel
theorem dX12_init_524 : decode cX12_init 524 = .ok (.iconst 5, 1) := by decide +kernel
theorem dX12_init_525 : decode cX12_init 525 = .ok (.bipush 99, 2) := by decide +kernel
theorem dX12_init_527 : decode cX12_init 527 = .ok (.bipush 111, 2) := by decide +kernel
theorem dX12_init_529 : decode cX12_init 529 = .ok (.bipush 97, 2) := by decide +kernel
theorem dX12_init_531 : decode cX12_init 531 = .ok (.bipush 108, 2) := by decide +kernel
theorem dX12_init_533 : decode cX12_init 533 = .ok (.bipush 115, 2) := by decide +kernel
theorem dX12_init_535 : decode cX12_init 535 = .ok (.iconst 0, 1) := by decide +kernel
theorem dX12_init_536 : decode cX12_init 536 = .ok (.iconst 0, 1) := by decide +kernel
theorem dX12_init_537 : decode cX12_init 537 = .ok (.invokestatic 168, 3) := by decide +kernel
theorem dX12_init_540 : decode cX12_init 540 = .ok (.lastore, 1) := by decide +kernel
theorem dX12_init_541 : decode cX12_init 541 = .ok (.aload_n 0, 1) := by decide +kernel
theorem dX12_init_542 : decode cX12_init 542 = .ok (.getfield 34, 3) := by decide +kernel
theorem dX12_init_545 : decode cX12_init 545 = .ok (.bipush 6, 2) := by decide +kernel
theorem dX12_init_547 : decode cX12_init 547 = .ok (.bipush 114, 2) := by decide +kernel
theorem dX12_init_549 : decode cX12_init 549 = .ok (.bipush 111, 2) := by decide +kernel
theorem dX12_init_551 : decode cX12_init 551 = .ok (.bipush 111, 2) := by decide +kernel
theorem dX12_init_553 : decode cX12_init 553 = .ok (.bipush 102, 2) := by decide +kernel
theorem dX12_init_555 : decode cX12_init 555 = .ok (.iconst 0, 1) := by decide +kernel
theorem dX12_init_556 : decode cX12_init 556 = .ok (.iconst 0, 1) := by decide +kernel
theorem dX12_init_557 : decode cX12_init 557 = .ok (.iconst 0, 1) := by decide +kernel
theorem dX12_init_558 : decode cX12_init 558 = .ok (.invokestatic 168, 3) := by decide +kernel
theorem dX12_init_561 : decode cX12_init 561 = .ok (.lastore, 1) := by decide +kernel
theorem dX12_init_562 : decode cX12_init 562 = .ok (.aload_n 0, 1) := by decide +kernel
theorem dX12_init_563 : decode cX12_init 563 = .ok (.getfield 34, 3) := by decide +kernel
theorem dX12_init_566 : decode cX12_init 566 = .ok (.bipush 7, 2) := by decide +kernel
theorem dX12_init_568 : decode cX12_init 568 = .ok (.bipush 104, 2) := by decide +kernel
theorem dX12_init_570 : decode cX12_init 570 = .ok (.bipush 97, 2) := by decide +kernel
theorem dX12_init_572 : decode cX12_init 572 = .ok (.bipush 105, 2) := by decide +kernel
theorem dX12_init_574 : decode cX12_init 574 = .ok (.bipush 108, 2) := by decide +kernel
theorem dX12_init_576 : decode cX12_init 576 = .ok (.iconst 0, 1) := by decide +kernel
theorem dX12_init_577 : decode cX12_init 577 = .ok (.iconst 0, 1) := by decide +kernel
theorem dX12_init_578 : decode cX12_init 578 = .ok (.iconst 0, 1) := by decide +kernel
theorem dX12_init_579 : decode cX12_init 579 = .ok (.invokestatic 168, 3) := by decide +kernel
theorem dX12_init_582 : decode cX12_init 582 = .ok (.lastore, 1) := by decide +kernel
theorem dX12_init_583 : decode cX12_init 583 = .ok (.aload_n 0, 1) := by decide +kernel
theorem dX12_init_584 : decode cX12_init 584 = .ok (.getfield 34, 3) := by decide +kernel
theorem dX12_init_587 : decode cX12_init 587 = .ok (.bipush 8, 2) := by decide +kernel
theorem dX12_init_589 : decode cX12_init 589 = .ok (.bipush 115, 2) := by decide +kernel
theorem dX12_init_591 : decode cX12_init 591 = .ok (.bipush 101, 2) := by decide +kernel
theorem dX12_init_593 : decode cX12_init 593 = .ok (.bipush 101, 2) := by decide +kernel
theorem dX12_init_595 : decode cX12_init 595 = .ok (.bipush 100, 2) := by decide +kernel
theorem dX12_init_597 : decode cX12_init 597 = .ok (.iconst 0, 1) := by decide +kernel
theorem dX12_init_598 : decode cX12_init 598 = .ok (.iconst 0, 1) := by decide +kernel
theorem dX12_init_599 : decode cX12_init 599 = .ok (.iconst 0, 1) := by decide +kernel
theorem dX12_init_600 : decode cX12_init 600 = .ok (.invokestatic 168, 3) := by decide +kernel
theorem dX12_init_603 : decode cX12_init 603 = .ok (.lastore, 1) := by decide +kernel
theorem dX12_init_604 : decode cX12_init 604 = .ok (.aload_n 0, 1) := by decide +kernel
theorem dX12_init_605 : decode cX12_init 605 = .ok (.getfield 34, 3) := by decide +kernel
theorem dX12_init_608 : decode cX12_init 608 = .ok (.bipush 9, 2) := by decide +kernel
theorem dX12_init_610 : decode cX12_init 610 = .ok (.bipush 105, 2) := by decide +kernel
theorem dX12_init_612 : decode cX12_init 612 = .ok (.bipush 102, 2) := by decide +kernel
theorem dX12_init_614 : decode cX12_init 614 = .ok (.iconst 0, 1) := by decide +kernel
theorem dX12_init_615 : decode cX12_init 615 = .ok (.iconst 0, 1) := by decide +kernel
theorem dX12_init_616 : decode cX12_init 616 = .ok (.iconst 0, 1) := by decide +kernel
theorem dX12_init_617 : decode cX12_init 617 = .ok (.iconst 0, 1) := by decide +kernel
theorem dX12_init_618 : decode cX12_init 618 = .ok (.iconst 0, 1) := by decide +kernel
theorem dX12_init_619 : decode cX12_init 619 = .ok (.invokestatic 168, 3) := by decide +kernel
theorem dX12_init_622 : decode cX12_init 622 = .ok (.lastore, 1) := by decide +kernel
theorem dX12_init_623 : decode cX12_init 623 = .ok (.aload_n 0, 1) := by decide +kernel
theorem dX12_init_624 : decode cX12_init 624 = .ok (.getfield 34, 3) := by decide +kernel
theorem dX12_init_627 : decode cX12_init 627 = .ok (.bipush 10, 2) := by decide +kernel
theorem dX12_init_629 : decode cX12_init 629 = .ok (.bipush 116, 2) := by decide +kernel
theorem dX12_init_631 : decode cX12_init 631 = .ok (.bipush 104, 2) := by decide +kernel
theorem dX12_init_633 : decode cX12_init 633 = .ok (.bipush 101, 2) := by decide +kernel
theorem dX12_init_635 : decode cX12_init 635 = .ok (.bipush 110, 2) := by decide +kernel
theorem dX12_init_637 : decode cX12_init 637 = .ok (.iconst 0, 1) := by decide +kernel
theorem dX12_init_638 : decode cX12_init 638 = .ok (.iconst 0, 1) := by decide +kernel
theorem dX12_init_639 : decode cX12_init 639 = .ok (.iconst 0, 1) := by decide +kernel
theorem dX12_init_640 : decode cX12_init 640 = .ok (.invokestatic 168, 3) := by decide +kernel
theorem dX12_init_643 : decode cX12_init 643 = .ok (.lastore, 1) := by decide +kernel
theorem dX12_init_644 : decode cX12_init 644 = .ok (.aload_n 0, 1) := by decide +kernel
theorem dX12_init_645 : decode cX12_init 645 = .ok (.getfield 34, 3) := by decide +kernel
theorem dX12_init_648 : decode cX12_init 648 = .ok (.bipush 11, 2) := by decide +kernel
theorem dX12_init_650 : decode cX12_init 650 = .ok (.bipush 101, 2) := by decide +kernel
theorem dX12_init_652 : decode cX12_init 652 = .ok (.bipush 108, 2) := by decide +kernel
theorem dX12_init_654 : decode cX12_init 654 = .ok (.bipush 115, 2) := by decide +kernel
theorem dX12_init_656 : decode cX12_init 656 = .ok (.bipush 101, 2) := by decide +kernel
theorem dX12_init_658 : decode cX12_init 658 = .ok (.iconst 0, 1) := by decide +kernel
theorem dX12_init_659 : decode cX12_init 659 = .ok (.iconst 0, 1) := by decide +kernel
theorem dX12_init_660 : decode cX12_init 660 = .ok (.iconst 0, 1) := by decide +kernel
theorem dX12_init_661 : decode cX12_init 661 = .ok (.invokestatic 168, 3) := by decide +kernel
theorem dX12_init_664 : decode cX12_init 664 = .ok (.lastore, 1) := by decide +kernel
theorem dX12_init_665 : decode cX12_init 665 = .ok (.aload_n 0, 1) := by decide +kernel
theorem dX12_init_666 : decode cX12_init 666 = .ok (.getfield 34, 3) := by decide +kernel
theorem dX12_init_669 : decode cX12_init 669 = .ok (.bipush 12, 2) := by decide +kernel
theorem dX12_init_671 : decode cX12_init 671 = .ok (.bipush 112, 2) := by decide +kernel
theorem dX12_init_673 : decode cX12_init 673 = .ok (.bipush 97, 2) := by decide +kernel
theorem dX12_init_675 : decode cX12_init 675 = .ok (.bipush 110, 2) := by decide +kernel
theorem dX12_init_677 : decode cX12_init 677 = .ok (.bipush 101, 2) := by decide +kernel
theorem dX12_init_679 : decode cX12_init 679 = .ok (.bipush 115, 2) := by decide +kernel
theorem dX12_init_681 : decode cX12_init 681 = .ok (.iconst 0, 1) := by decide +kernel
theorem dX12_init_682 : decode cX12_init 682 = .ok (.iconst 0, 1) := by decide +kernel
theorem dX12_init_683 : decode cX12_init 683 = .ok (.invokestatic 168, 3) := by decide +kernel
theorem dX12_init_686 : decode cX12_init 686 = .ok (.lastore, 1) := by decide +kernel
theorem dX12_init_687 : decode cX12_init 687 = .ok (.aload_n 0, 1) := by decide +kernel
theorem dX12_init_688 : decode cX12_init 688 = .ok (.getfield 34, 3) := by decide +kernel
theorem dX12_init_691 : decode cX12_init 691 = .ok (.bipush 13, 2) := by decide +kernel
theorem dX12_init_693 : decode cX12_init 693 = .ok (.bipush 98, 2) := by decide +kernel
theorem dX12_init_695 : decode cX12_init 695 = .ok (.bipush 114, 2) := by decide +kernel
theorem dX12_init_697 : decode cX12_init 697 = .ok (.bipush 111, 2) := by decide +kernel
theorem dX12_init_699 : decode cX12_init 699 = .ok (.bipush 107, 2) := by decide +kernel
theorem dX12_init_701 : decode cX12_init 701 = .ok (.bipush 101, 2) := by decide +kernel
theorem dX12_init_703 : decode cX12_init 703 = .ok (.bipush 110, 2) := by decide +kernel
theorem dX12_init_705 : decode cX12_init 705 = .ok (.iconst 0, 1) := by decide +kernel
theorem dX12_init_706 : decode cX12_init 706 = .ok (.invokestatic 168, 3) := by decide +kernel
theorem dX12_init_709 : decode cX12_init 709 = .ok (.lastore, 1) := by decide +kernel
theorem dX12_init_710 : decode cX12_init 710 = .ok (.aload_n 0, 1) := by decide +kernel
theorem dX12_init_711 : decode cX12_init 711 = .ok (.getfield 34, 3) := by decide +kernel
theorem dX12_init_714 : decode cX12_init 714 = .ok (.bipush 14, 2) := by decide +kernel
theorem dX12_init_716 : decode cX12_init 716 = .ok (.bipush 104, 2) := by decide +kernel
theorem dX12_init_718 : decode cX12_init 718 = .ok (.bipush 101, 2) := by decide +kernel
theorem dX12_init_720 : decode cX12_init 720 = .ok (.bipush 97, 2) := by decide +kernel
theorem dX12_init_722 : decode cX12_init 722 = .ok (.bipush 116, 2) := by decide +kernel
theorem dX12_init_724 : decode cX12_init 724 = .ok (.iconst 0, 1) := by decide +kernel
theorem dX12_init_725 : decode cX12_init 725 = .ok (.iconst 0, 1) := by decide +kernel
theorem dX12_init_726 : decode cX12_init 726 = .ok (.iconst 0, 1) := by decide +kernel
theorem dX12_init_727 : decode cX12_init 727 = .ok (.invokestatic 168, 3) := by decide +kernel
theorem dX12_init_730 : decode cX12_init 730 = .ok (.lastore, 1) := by decide +kernel
theorem dX12_init_731 : decode cX12_init 731 = .ok (.aload_n 0, 1) := by decide +kernel
theorem dX12_init_732 : decode cX12_init 732 = .ok (.getfield 34, 3) := by decide +kernel
theorem dX12_init_735 : decode cX12_init 735 = .ok (.bipush 15, 2) := by decide +kernel
theorem dX12_init_737 : decode cX12_init 737 = .ok (.bipush 107, 2) := by decide +kernel
theorem dX12_init_739 : decode cX12_init 739 = .ok (.bipush 101, 2) := by decide +kernel
theorem dX12_init_741 : decode cX12_init 741 = .ok (.bipush 112, 2) := by decide +kernel
theorem dX12_init_743 : decode cX12_init 743 = .ok (.bipush 116, 2) := by decide +kernel
theorem dX12_init_745 : decode cX12_init 745 = .ok (.iconst 0, 1) := by decide +kernel
theorem dX12_init_746 : decode cX12_init 746 = .ok (.iconst 0, 1) := by decide +kernel
theorem dX12_init_747 : decode cX12_init 747 = .ok (.iconst 0, 1) := by decide +kernel
theorem dX12_init_748 : decode cX12_init 748 = .ok (.invokestatic 168, 3) := by decide +kernel
theorem dX12_init_751 : decode cX12_init 751 = .ok (.lastore, 1) := by decide +kernel
theorem dX12_init_752 : decode cX12_init 752 = .ok (.aload_n 0, 1) := by decide +kernel
theorem dX12_init_753 : decode cX12_init 753 = .ok (.getfield 34, 3) := by decide +kernel
theorem dX12_init_756 : decode cX12_init 756 = .ok (.bipush 16, 2) := by decide +kernel
theorem dX12_init_758 : decode cX12_init 758 = .ok (.bipush 111, 2) := by decide +kernel
theorem dX12_init_760 : decode cX12_init 760 = .ok (.bipush 112, 2) := by decide +kernel
theorem dX12_init_762 : decode cX12_init 762 = .ok (.bipush 101, 2) := by decide +kernel
theorem dX12_init_764 : decode cX12_init 764 = .ok (.bipush 110, 2) := by decide +kernel
theorem dX12_init_766 : decode cX12_init 766 = .ok (.iconst 0, 1) := by decide +kernel
theorem dX12_init_767 : decode cX12_init 767 = .ok (.iconst 0, 1) := by decide +kernel
theorem dX12_init_768 : decode cX12_init 768 = .ok (.iconst 0, 1) := by decide +kernel
theorem dX12_init_769 : decode cX12_init 769 = .ok (.invokestatic 168, 3) := by decide +kernel
theorem dX12_init_772 : decode cX12_init 772 = .ok (.lastore, 1) := by decide +kernel
theorem dX12_init_773 : decode cX12_init 773 = .ok (.aload_n 0, 1) := by decide +kernel
theorem dX12_init_774 : decode cX12_init 774 = .ok (.getfield 34, 3) := by decide +kernel
theorem dX12_init_777 : decode cX12_init 777 = .ok (.bipush 17, 2) := by decide +kernel
theorem dX12_init_779 : decode cX12_init 779 = .ok (.bipush 100, 2) := by decide +kernel
theorem dX12_init_781 : decode cX12_init 781 = .ok (.bipush 97, 2) := by decide +kernel
theorem dX12_init_783 : decode cX12_init 783 = .ok (.bipush 121, 2) := by decide +kernel
theorem dX12_init_785 : decode cX12_init 785 = .ok (.iconst 0, 1) := by decide +kernel
theorem dX12_init_786 : decode cX12_init 786 = .ok (.iconst 0, 1) := by decide +kernel
theorem dX12_init_787 : decode cX12_init 787 = .ok (.iconst 0, 1) := by decide +kernel
theorem dX12_init_788 : decode cX12_init 788 = .ok (.iconst 0, 1) := by decide +kernel
theorem dX12_init_789 : decode cX12_init 789 = .ok (.invokestatic 168, 3) := by decide +kernel
theorem dX12_init_792 : decode cX12_init 792 = .ok (.lastore, 1) := by decide +kernel
theorem dX12_init_793 : decode cX12_init 793 = .ok (.aload_n 0, 1) := by decide +kernel
theorem dX12_init_794 : decode cX12_init 794 = .ok (.getfield 34, 3) := by decide +kernel
theorem dX12_init_797 : decode cX12_init 797 = .ok (.bipush 18, 2) := by decide +kernel
theorem dX12_init_799 : decode cX12_init 799 = .ok (.bipush 119, 2) := by decide +kernel
theorem dX12_init_801 : decode cX12_init 801 = .ok (.bipush 104, 2) := by decide +kernel
theorem dX12_init_803 : decode cX12_init 803 = .ok (.bipush 105, 2) := by decide +kernel
theorem dX12_init_805 : decode cX12_init 805 = .ok (.bipush 99, 2) := by decide +kernel
theorem dX12_init_807 : decode cX12_init 807 = .ok (.bipush 104, 2) := by decide +kernel
theorem dX12_init_809 : decode cX12_init 809 = .ok (.iconst 0, 1) := by decide +kernel
theorem dX12_init_810 : decode cX12_init 810 = .ok (.iconst 0, 1) := by decide +kernel
theorem dX12_init_811 : decode cX12_init 811 = .ok (.invokestatic 168, 3) := by decide +kernel
theorem dX12_init_814 : decode cX12_init 814 = .ok (.lastore, 1) := by decide +kernel
theorem dX12_init_815 : decode cX12_init 815 = .ok (.aload_n 0, 1) := by decide +kernel
theorem dX12_init_816 : decode cX12_init 816 = .ok (.getfield 34, 3) := by decide +kernel
theorem dX12_init_819 : decode cX12_init 819 = .ok (.bipush 19, 2) := by decide +kernel
theorem dX12_init_821 : decode cX12_init 821 = .ok (.bipush 108, 2) := by decide +kernel
theorem dX12_init_823 : decode cX12_init 823 = .ok (.bipush 101, 2) := by decide +kernel
theorem dX12_init_825 : decode cX12_init 825 = .ok (.bipush 97, 2) := by decide +kernel
theorem dX12_init_827 : decode cX12_init 827 = .ok (.bipush 118, 2) := by decide +kernel
theorem dX12_init_829 : decode cX12_init 829 = .ok (.bipush 101, 2) := by decide +kernel
theorem dX12_init_831 : decode cX12_init 831 = .ok (.bipush 115, 2) := by decide +kernel
theorem dX12_init_833 : decode cX12_init 833 = .ok (.iconst 0, 1) := by decide +kernel
theorem dX12_init_834 : decode cX12_init 834 = .ok (.invokestatic 168, 3) := by decide +kernel
theorem dX12_init_837 : decode cX12_init 837 = .ok (.lastore, 1) := by decide +kernel
theorem dX12_init_838 : decode cX12_init 838 = .ok (.aload_n 0, 1) := by decide +kernel
theorem dX12_init_839 : decode cX12_init 839 = .ok (.getfield 34, 3) := by decide +kernel
theorem dX12_init_842 : decode cX12_init 842 = .ok (.bipush 20, 2) := by decide +kernel
theorem dX12_init_844 : decode cX12_init 844 = .ok (.bipush 98, 2) := by decide +kernel
theorem dX12_init_846 : decode cX12_init 846 = .ok (.bipush 117, 2) := by decide +kernel
theorem dX12_init_848 : decode cX12_init 848 = .ok (.bipush 114, 2) := by decide +kernel
theorem dX12_init_850 : decode cX12_init 850 = .ok (.bipush 110, 2) := by decide +kernel
theorem dX12_init_852 : decode cX12_init 852 = .ok (.bipush 116, 2) := by decide +kernel
theorem dX12_init_854 : decode cX12_init 854 = .ok (.iconst 0, 1) := by decide +kernel
theorem dX12_init_855 : decode cX12_init 855 = .ok (.iconst 0, 1) := by decide +kernel
theorem dX12_init_856 : decode cX12_init 856 = .ok (.invokestatic 168, 3) := by decide +kernel
theorem dX12_init_859 : decode cX12_init 859 = .ok (.lastore, 1) := by decide +kernel
theorem dX12_init_860 : decode cX12_init 860 = .ok (.aload_n 0, 1) := by decide +kernel
theorem dX12_init_861 : decode cX12_init 861 = .ok (.invokevirtual 172, 3) := by decide +kernel
theorem dX12_init_864 : decode cX12_init 864 = .ok (.aload_n 0, 1) := by decide +kernel
theorem dX12_init_865 : decode cX12_init 865 = .ok (.invokevirtual 175, 3) := by decide +kernel
theorem dX12_init_868 : decode cX12_init 868 = .ok (.return_, 1) := by decide +kernel
def fX12_init (μ : Mem) : Option Mem :=
  bd (zr μ 1) (fun μ1 => bd (zr μ1 2) (fun μ3 => bd (zr μ3 3) (fun μ5 => bd (zr μ5 4) (fun μ7 => bd (zr μ7 5) (fun μ9 => bd (zr μ9 6) (fun μ11 => bd (zr μ11 7) (fun μ13 => bd (upI μ13 0 17 (-1)) (fun μ15 => bd (zr μ15 8) (fun μ17 => bd (zr μ17 9) (fun μ19 => bd (zr μ19 10) (fun μ21 => bd (zr μ21 11) (fun μ23 => bd (zr μ23 12) (fun μ25 => bd (zr μ25 13) (fun μ27 => bd (zr μ27 14) (fun μ29 => bd (zr μ29 15) (fun μ31 => bd (zr μ31 16) (fun μ33 => bd (zr μ33 17) (fun μ35 => bd (zr μ35 18) (fun μ37 => bd (zr μ37 19) (fun μ39 => bd (zr μ39 20) (fun μ41 => bd (zr μ41 21) (fun μ43 => bd (zr μ43 22) (fun μ45 => bd (zr μ45 23) (fun μ47 => bd (zr μ47 24) (fun μ49 => bd (zr μ49 25) (fun μ51 => bd (zr μ51 26) (fun μ53 => bd (zr μ53 27) (fun μ55 => bd (zr μ55 28) (fun μ57 => bd (zr μ57 29) (fun μ59 => bd (zr μ59 30) (fun μ61 => bd (zr μ61 31) (fun μ63 => bd (zr μ63 32) (fun μ65 => bd (zr μ65 33) (fun μ67 => bd (zr μ67 34) (fun μ69 => bd (zr μ69 35) (fun μ71 => bd (zr μ71 36) (fun μ73 => bd (zr μ73 37) (fun μ75 => bd (zr μ75 38) (fun μ77 => bd (zr μ77 39) (fun μ79 => bd (zr μ79 40) (fun μ81 => bd (zr μ81 41) (fun μ83 => bd (zr μ83 42) (fun μ85 => bd (zr μ85 43) (fun μ87 => bd (zr μ87 44) (fun μ89 => bd (zr μ89 45) (fun μ91 => bd (zr μ91 46) (fun μ93 => bd (zr μ93 47) (fun μ95 => bd (zr μ95 48) (fun μ97 => b1 (fX12_plain 0 μ97) (fun μ100 => b1 (fX12_plain 1 μ100) (fun μ102 => b1 (fX12_word 104 111 117 115 101 0 0) (fun r104 => bd (upL μ102 7 0 r104) (fun μ105 => b1 (fX12_word 99 111 111 108 115 0 0) (fun r108 => bd (upL μ105 7 1 r108) (fun μ109 => b1 (fX12_word 119 97 114 109 115 0 0) (fun r112 => bd (upL μ109 7 2 r112) (fun μ113 => b1 (fX12_word 102 97 100 101 115 0 0) (fun r116 => bd (upL μ113 7 3 r116) (fun μ117 => b1 (fX12_word 109 101 110 100 115 0 0) (fun r120 => bd (upL μ117 7 4 r120) (fun μ121 => b1 (fX12_word 99 111 97 108 115 0 0) (fun r124 => bd (upL μ121 7 5 r124) (fun μ125 => b1 (fX12_word 114 111 111 102 0 0 0) (fun r128 => bd (upL μ125 7 6 r128) (fun μ129 => b1 (fX12_word 104 97 105 108 0 0 0) (fun r132 => bd (upL μ129 7 7 r132) (fun μ133 => b1 (fX12_word 115 101 101 100 0 0 0) (fun r136 => bd (upL μ133 7 8 r136) (fun μ137 => b1 (fX12_word 105 102 0 0 0 0 0) (fun r140 => bd (upL μ137 7 9 r140) (fun μ141 => b1 (fX12_word 116 104 101 110 0 0 0) (fun r144 => bd (upL μ141 7 10 r144) (fun μ145 => b1 (fX12_word 101 108 115 101 0 0 0) (fun r148 => bd (upL μ145 7 11 r148) (fun μ149 => b1 (fX12_word 112 97 110 101 115 0 0) (fun r152 => bd (upL μ149 7 12 r152) (fun μ153 => b1 (fX12_word 98 114 111 107 101 110 0) (fun r156 => bd (upL μ153 7 13 r156) (fun μ157 => b1 (fX12_word 104 101 97 116 0 0 0) (fun r160 => bd (upL μ157 7 14 r160) (fun μ161 => b1 (fX12_word 107 101 112 116 0 0 0) (fun r164 => bd (upL μ161 7 15 r164) (fun μ165 => b1 (fX12_word 111 112 101 110 0 0 0) (fun r168 => bd (upL μ165 7 16 r168) (fun μ169 => b1 (fX12_word 100 97 121 0 0 0 0) (fun r172 => bd (upL μ169 7 17 r172) (fun μ173 => b1 (fX12_word 119 104 105 99 104 0 0) (fun r176 => bd (upL μ173 7 18 r176) (fun μ177 => b1 (fX12_word 108 101 97 118 101 115 0) (fun r180 => bd (upL μ177 7 19 r180) (fun μ181 => b1 (fX12_word 98 117 114 110 116 0 0) (fun r184 => bd (upL μ181 7 20 r184) (fun μ185 => b1 (fX12_begins μ185) (fun μ188 => b1 (fX12_keepsRow μ188) (fun μ190 => some μ190)))))))))))))))))))))))))))))))))))))))))))))))))))))))))))))))))))))))))))))))))))))))))))))))
set_option maxHeartbeats 8000000 in
set_option maxRecDepth 100000 in
theorem i_X12 {l : Launch} {G : GG} {B : Nat} {E : State → Prop} {μ μo : Mem} (hE : ∀ U, E U → KX G U) (h : fX12_init μ = some μo) : Ini l yX12_init cX12_init 1 12 48 11916 G DSM B 0 49 E [] μ μo := by
  refine ini_of (by decide) rfl (Nat.le_of_ble_eq_true rfl) (fun p e s m args below meth c ls C hr hlk hin2 hok hl hH hS => ?_)
  have hx := C.1
  have hb := C.2.1
  unfold fX12_init at h
  have hW : FWM (ωk G DSM B 0 49 E (nf 0 [])) := ⟨rfl, fun j t n h => ⟨Nat.zero_le _, (List.getElem?_eq_some_iff.mp h).1⟩, fun j k => nf_nil⟩
  have hH := hH.ent (Rem := [1, 3, 5, 6, 7, 8, 9, 20, 21, 22, 23, 24, 25, 26, 27, 28, 29, 30, 31, 32, 34, 35, 36, 37, 38, 40, 41, 42, 44, 45, 47, 48, 51, 52, 54, 55, 56, 57, 58, 59, 60, 61, 62, 64, 65, 66, 67, 68]) (show DSM[0]? = _ from rfl) (by decide) (ft_rem (by decide +kernel) (by decide +kernel))
  have hS : FS (ωk G DSM B 0 1 E (nf 0 [1, 3, 5, 6, 7, 8, 9, 20, 21, 22, 23, 24, 25, 26, 27, 28, 29, 30, 31, 32, 34, 35, 36, 37, 38, 40, 41, 42, 44, 45, 47, 48, 51, 52, 54, 55, 56, 57, 58, 59, 60, 61, 62, 64, 65, 66, 67, 68])) s s.heap [] := hS
  have C : Cx (ωk G DSM B 0 1 E (nf 0 [1, 3, 5, 6, 7, 8, 9, 20, 21, 22, 23, 24, 25, 26, 27, 28, 29, 30, 31, 32, 34, 35, 36, 37, 38, 40, 41, 42, 44, 45, 47, 48, 51, 52, 54, 55, 56, 57, 58, 59, 60, 61, 62, 64, 65, 66, 67, 68])) p s m args c cX12_init 1 RX12 := Cx.ofk hok C
  obtain ⟨H, hHs⟩ : ∃ H, H = s.heap := ⟨_, rfl⟩
  rw [← hHs] at hH ⊢
  obtain ⟨locs, hlocs⟩ : ∃ locs : List Loc, locs = [] := ⟨_, rfl⟩
  rw [← hlocs] at hS ⊢
  have hS : FS (ωk G DSM B 0 1 E (nf 0 [1, 3, 5, 6, 7, 8, 9, 20, 21, 22, 23, 24, 25, 26, 27, 28, 29, 30, 31, 32, 34, 35, 36, 37, 38, 40, 41, 42, 44, 45, 47, 48, 51, 52, 54, 55, 56, 57, 58, 59, 60, 61, 62, 64, 65, 66, 67, 68])) s H locs := by rw [hHs]; exact hS
  refine lv_aload_n hx hb dX12_init_0 rfl (lv_at hl 0 rfl) ?_
  refine k_obj (rest := []) C hl.1 wd_1164 (Nat.le_of_ble_eq_true rfl) (Nat.le_of_ble_eq_true rfl) dX12_init_1 ?_
  refine lv_aload_n hx hb dX12_init_4 rfl (lv_at hl 0 rfl) ?_
  refine lv_sipush (v := 2000) hx hb dX12_init_5 (by decide) ?_
  have hq := bd_e h; clear h; obtain ⟨μ1, e2, h⟩ := hq
  refine k_newa (atype := .byte) (rest := [.ref (B + 0)]) hE C hH hS (by decide) (show DSM[1]? = _ from rfl) rfl (by decide) (by decide) wd_208 (by decide) (by decide) (by decide) (Nat.le_of_ble_eq_true rfl) (Nat.le_of_ble_eq_true rfl) dX12_init_8 (fun H hH hS => ?_)
  replace hH : Hd (ωk G DSM B 0 2 E (nf 0 [1, 3, 5, 6, 7, 8, 9, 20, 21, 22, 23, 24, 25, 26, 27, 28, 29, 30, 31, 32, 34, 35, 36, 37, 38, 40, 41, 42, 44, 45, 47, 48, 51, 52, 54, 55, 56, 57, 58, 59, 60, 61, 62, 64, 65, 66, 67, 68])) μ1 H := Hd.to e2 hH
  replace hS : FS (ωk G DSM B 0 2 E (nf 0 [1, 3, 5, 6, 7, 8, 9, 20, 21, 22, 23, 24, 25, 26, 27, 28, 29, 30, 31, 32, 34, 35, 36, 37, 38, 40, 41, 42, 44, 45, 47, 48, 51, 52, 54, 55, 56, 57, 58, 59, 60, 61, 62, 64, 65, 66, 67, 68])) s H locs := hS
  replace C : Cx (ωk G DSM B 0 2 E (nf 0 [1, 3, 5, 6, 7, 8, 9, 20, 21, 22, 23, 24, 25, 26, 27, 28, 29, 30, 31, 32, 34, 35, 36, 37, 38, 40, 41, 42, 44, 45, 47, 48, 51, 52, 54, 55, 56, 57, 58, 59, 60, 61, 62, 64, 65, 66, 67, 68])) p s m args c cX12_init 1 RX12 := Cx.ofk hok C
  refine k_putr hin2 (k := 1) (Rem := [3, 5, 6, 7, 8, 9, 20, 21, 22, 23, 24, 25, 26, 27, 28, 29, 30, 31, 32, 34, 35, 36, 37, 38, 40, 41, 42, 44, 45, 47, 48, 51, 52, 54, 55, 56, 57, 58, 59, 60, 61, 62, 64, 65, 66, 67, 68]) (ty := tyX12 1) (rest := []) C hH hS (show DSM[0]? = _ from rfl) (by decide) rfl (show 1 < 69 by decide) rfl wd_1188 rfl rfl rfl (by decide) rfl (by decide) (by decide) dX12_init_10 (fun H locs hH hS => ?_)
  replace hS : FS (ωk G DSM B 0 2 E (nf 0 [3, 5, 6, 7, 8, 9, 20, 21, 22, 23, 24, 25, 26, 27, 28, 29, 30, 31, 32, 34, 35, 36, 37, 38, 40, 41, 42, 44, 45, 47, 48, 51, 52, 54, 55, 56, 57, 58, 59, 60, 61, 62, 64, 65, 66, 67, 68])) s H locs := hS
  replace C : Cx (ωk G DSM B 0 2 E (nf 0 [3, 5, 6, 7, 8, 9, 20, 21, 22, 23, 24, 25, 26, 27, 28, 29, 30, 31, 32, 34, 35, 36, 37, 38, 40, 41, 42, 44, 45, 47, 48, 51, 52, 54, 55, 56, 57, 58, 59, 60, 61, 62, 64, 65, 66, 67, 68])) p s m args c cX12_init 1 RX12 := Cx.ofk hok C
  replace hH : Hd (ωk G DSM B 0 2 E (nf 0 [3, 5, 6, 7, 8, 9, 20, 21, 22, 23, 24, 25, 26, 27, 28, 29, 30, 31, 32, 34, 35, 36, 37, 38, 40, 41, 42, 44, 45, 47, 48, 51, 52, 54, 55, 56, 57, 58, 59, 60, 61, 62, 64, 65, 66, 67, 68])) μ1 H := hH
  refine lv_aload_n hx hb dX12_init_13 rfl (lv_at hl 0 rfl) ?_
  refine lv_sipush (v := 2000) hx hb dX12_init_14 (by decide) ?_
  have hq := bd_e h; clear h; obtain ⟨μ3, e4, h⟩ := hq
  refine k_newa (atype := .byte) (rest := [.ref (B + 0)]) hE C hH hS (by decide) (show DSM[2]? = _ from rfl) rfl (by decide) (by decide) wd_208 (by decide) (by decide) (by decide) (Nat.le_of_ble_eq_true rfl) (Nat.le_of_ble_eq_true rfl) dX12_init_17 (fun H hH hS => ?_)
  replace hH : Hd (ωk G DSM B 0 3 E (nf 0 [3, 5, 6, 7, 8, 9, 20, 21, 22, 23, 24, 25, 26, 27, 28, 29, 30, 31, 32, 34, 35, 36, 37, 38, 40, 41, 42, 44, 45, 47, 48, 51, 52, 54, 55, 56, 57, 58, 59, 60, 61, 62, 64, 65, 66, 67, 68])) μ3 H := Hd.to e4 hH
  replace hS : FS (ωk G DSM B 0 3 E (nf 0 [3, 5, 6, 7, 8, 9, 20, 21, 22, 23, 24, 25, 26, 27, 28, 29, 30, 31, 32, 34, 35, 36, 37, 38, 40, 41, 42, 44, 45, 47, 48, 51, 52, 54, 55, 56, 57, 58, 59, 60, 61, 62, 64, 65, 66, 67, 68])) s H locs := hS
  replace C : Cx (ωk G DSM B 0 3 E (nf 0 [3, 5, 6, 7, 8, 9, 20, 21, 22, 23, 24, 25, 26, 27, 28, 29, 30, 31, 32, 34, 35, 36, 37, 38, 40, 41, 42, 44, 45, 47, 48, 51, 52, 54, 55, 56, 57, 58, 59, 60, 61, 62, 64, 65, 66, 67, 68])) p s m args c cX12_init 1 RX12 := Cx.ofk hok C
  refine k_putr hin2 (k := 3) (Rem := [5, 6, 7, 8, 9, 20, 21, 22, 23, 24, 25, 26, 27, 28, 29, 30, 31, 32, 34, 35, 36, 37, 38, 40, 41, 42, 44, 45, 47, 48, 51, 52, 54, 55, 56, 57, 58, 59, 60, 61, 62, 64, 65, 66, 67, 68]) (ty := tyX12 3) (rest := []) C hH hS (show DSM[0]? = _ from rfl) (by decide) rfl (show 3 < 69 by decide) rfl wd_1190 rfl rfl rfl (by decide) rfl (by decide) (by decide) dX12_init_19 (fun H locs hH hS => ?_)
  replace hS : FS (ωk G DSM B 0 3 E (nf 0 [5, 6, 7, 8, 9, 20, 21, 22, 23, 24, 25, 26, 27, 28, 29, 30, 31, 32, 34, 35, 36, 37, 38, 40, 41, 42, 44, 45, 47, 48, 51, 52, 54, 55, 56, 57, 58, 59, 60, 61, 62, 64, 65, 66, 67, 68])) s H locs := hS
  replace C : Cx (ωk G DSM B 0 3 E (nf 0 [5, 6, 7, 8, 9, 20, 21, 22, 23, 24, 25, 26, 27, 28, 29, 30, 31, 32, 34, 35, 36, 37, 38, 40, 41, 42, 44, 45, 47, 48, 51, 52, 54, 55, 56, 57, 58, 59, 60, 61, 62, 64, 65, 66, 67, 68])) p s m args c cX12_init 1 RX12 := Cx.ofk hok C
  replace hH : Hd (ωk G DSM B 0 3 E (nf 0 [5, 6, 7, 8, 9, 20, 21, 22, 23, 24, 25, 26, 27, 28, 29, 30, 31, 32, 34, 35, 36, 37, 38, 40, 41, 42, 44, 45, 47, 48, 51, 52, 54, 55, 56, 57, 58, 59, 60, 61, 62, 64, 65, 66, 67, 68])) μ3 H := hH
  refine lv_aload_n hx hb dX12_init_22 rfl (lv_at hl 0 rfl) ?_
  refine lv_sipush (v := 403) hx hb dX12_init_23 (by decide) ?_
  have hq := bd_e h; clear h; obtain ⟨μ5, e6, h⟩ := hq
  refine k_newa (atype := .int) (rest := [.ref (B + 0)]) hE C hH hS (by decide) (show DSM[3]? = _ from rfl) rfl (by decide) (by decide) wd_210 (by decide) (by decide) (by decide) (Nat.le_of_ble_eq_true rfl) (Nat.le_of_ble_eq_true rfl) dX12_init_26 (fun H hH hS => ?_)
  replace hH : Hd (ωk G DSM B 0 4 E (nf 0 [5, 6, 7, 8, 9, 20, 21, 22, 23, 24, 25, 26, 27, 28, 29, 30, 31, 32, 34, 35, 36, 37, 38, 40, 41, 42, 44, 45, 47, 48, 51, 52, 54, 55, 56, 57, 58, 59, 60, 61, 62, 64, 65, 66, 67, 68])) μ5 H := Hd.to e6 hH
  replace hS : FS (ωk G DSM B 0 4 E (nf 0 [5, 6, 7, 8, 9, 20, 21, 22, 23, 24, 25, 26, 27, 28, 29, 30, 31, 32, 34, 35, 36, 37, 38, 40, 41, 42, 44, 45, 47, 48, 51, 52, 54, 55, 56, 57, 58, 59, 60, 61, 62, 64, 65, 66, 67, 68])) s H locs := hS
  replace C : Cx (ωk G DSM B 0 4 E (nf 0 [5, 6, 7, 8, 9, 20, 21, 22, 23, 24, 25, 26, 27, 28, 29, 30, 31, 32, 34, 35, 36, 37, 38, 40, 41, 42, 44, 45, 47, 48, 51, 52, 54, 55, 56, 57, 58, 59, 60, 61, 62, 64, 65, 66, 67, 68])) p s m args c cX12_init 1 RX12 := Cx.ofk hok C
  refine k_putr hin2 (k := 5) (Rem := [6, 7, 8, 9, 20, 21, 22, 23, 24, 25, 26, 27, 28, 29, 30, 31, 32, 34, 35, 36, 37, 38, 40, 41, 42, 44, 45, 47, 48, 51, 52, 54, 55, 56, 57, 58, 59, 60, 61, 62, 64, 65, 66, 67, 68]) (ty := tyX12 5) (rest := []) C hH hS (show DSM[0]? = _ from rfl) (by decide) rfl (show 5 < 69 by decide) rfl wd_1192 rfl rfl rfl (by decide) rfl (by decide) (by decide) dX12_init_28 (fun H locs hH hS => ?_)
  replace hS : FS (ωk G DSM B 0 4 E (nf 0 [6, 7, 8, 9, 20, 21, 22, 23, 24, 25, 26, 27, 28, 29, 30, 31, 32, 34, 35, 36, 37, 38, 40, 41, 42, 44, 45, 47, 48, 51, 52, 54, 55, 56, 57, 58, 59, 60, 61, 62, 64, 65, 66, 67, 68])) s H locs := hS
  replace C : Cx (ωk G DSM B 0 4 E (nf 0 [6, 7, 8, 9, 20, 21, 22, 23, 24, 25, 26, 27, 28, 29, 30, 31, 32, 34, 35, 36, 37, 38, 40, 41, 42, 44, 45, 47, 48, 51, 52, 54, 55, 56, 57, 58, 59, 60, 61, 62, 64, 65, 66, 67, 68])) p s m args c cX12_init 1 RX12 := Cx.ofk hok C
  replace hH : Hd (ωk G DSM B 0 4 E (nf 0 [6, 7, 8, 9, 20, 21, 22, 23, 24, 25, 26, 27, 28, 29, 30, 31, 32, 34, 35, 36, 37, 38, 40, 41, 42, 44, 45, 47, 48, 51, 52, 54, 55, 56, 57, 58, 59, 60, 61, 62, 64, 65, 66, 67, 68])) μ5 H := hH
  refine lv_aload_n hx hb dX12_init_31 rfl (lv_at hl 0 rfl) ?_
  refine lv_sipush (v := 403) hx hb dX12_init_32 (by decide) ?_
  have hq := bd_e h; clear h; obtain ⟨μ7, e8, h⟩ := hq
  refine k_newa (atype := .int) (rest := [.ref (B + 0)]) hE C hH hS (by decide) (show DSM[4]? = _ from rfl) rfl (by decide) (by decide) wd_210 (by decide) (by decide) (by decide) (Nat.le_of_ble_eq_true rfl) (Nat.le_of_ble_eq_true rfl) dX12_init_35 (fun H hH hS => ?_)
  replace hH : Hd (ωk G DSM B 0 5 E (nf 0 [6, 7, 8, 9, 20, 21, 22, 23, 24, 25, 26, 27, 28, 29, 30, 31, 32, 34, 35, 36, 37, 38, 40, 41, 42, 44, 45, 47, 48, 51, 52, 54, 55, 56, 57, 58, 59, 60, 61, 62, 64, 65, 66, 67, 68])) μ7 H := Hd.to e8 hH
  replace hS : FS (ωk G DSM B 0 5 E (nf 0 [6, 7, 8, 9, 20, 21, 22, 23, 24, 25, 26, 27, 28, 29, 30, 31, 32, 34, 35, 36, 37, 38, 40, 41, 42, 44, 45, 47, 48, 51, 52, 54, 55, 56, 57, 58, 59, 60, 61, 62, 64, 65, 66, 67, 68])) s H locs := hS
  replace C : Cx (ωk G DSM B 0 5 E (nf 0 [6, 7, 8, 9, 20, 21, 22, 23, 24, 25, 26, 27, 28, 29, 30, 31, 32, 34, 35, 36, 37, 38, 40, 41, 42, 44, 45, 47, 48, 51, 52, 54, 55, 56, 57, 58, 59, 60, 61, 62, 64, 65, 66, 67, 68])) p s m args c cX12_init 1 RX12 := Cx.ofk hok C
  refine k_putr hin2 (k := 6) (Rem := [7, 8, 9, 20, 21, 22, 23, 24, 25, 26, 27, 28, 29, 30, 31, 32, 34, 35, 36, 37, 38, 40, 41, 42, 44, 45, 47, 48, 51, 52, 54, 55, 56, 57, 58, 59, 60, 61, 62, 64, 65, 66, 67, 68]) (ty := tyX12 6) (rest := []) C hH hS (show DSM[0]? = _ from rfl) (by decide) rfl (show 6 < 69 by decide) rfl wd_1193 rfl rfl rfl (by decide) rfl (by decide) (by decide) dX12_init_37 (fun H locs hH hS => ?_)
  replace hS : FS (ωk G DSM B 0 5 E (nf 0 [7, 8, 9, 20, 21, 22, 23, 24, 25, 26, 27, 28, 29, 30, 31, 32, 34, 35, 36, 37, 38, 40, 41, 42, 44, 45, 47, 48, 51, 52, 54, 55, 56, 57, 58, 59, 60, 61, 62, 64, 65, 66, 67, 68])) s H locs := hS
  replace C : Cx (ωk G DSM B 0 5 E (nf 0 [7, 8, 9, 20, 21, 22, 23, 24, 25, 26, 27, 28, 29, 30, 31, 32, 34, 35, 36, 37, 38, 40, 41, 42, 44, 45, 47, 48, 51, 52, 54, 55, 56, 57, 58, 59, 60, 61, 62, 64, 65, 66, 67, 68])) p s m args c cX12_init 1 RX12 := Cx.ofk hok C
  replace hH : Hd (ωk G DSM B 0 5 E (nf 0 [7, 8, 9, 20, 21, 22, 23, 24, 25, 26, 27, 28, 29, 30, 31, 32, 34, 35, 36, 37, 38, 40, 41, 42, 44, 45, 47, 48, 51, 52, 54, 55, 56, 57, 58, 59, 60, 61, 62, 64, 65, 66, 67, 68])) μ7 H := hH
  refine lv_aload_n hx hb dX12_init_40 rfl (lv_at hl 0 rfl) ?_
  refine lv_sipush (v := 403) hx hb dX12_init_41 (by decide) ?_
  have hq := bd_e h; clear h; obtain ⟨μ9, e10, h⟩ := hq
  refine k_newa (atype := .int) (rest := [.ref (B + 0)]) hE C hH hS (by decide) (show DSM[5]? = _ from rfl) rfl (by decide) (by decide) wd_210 (by decide) (by decide) (by decide) (Nat.le_of_ble_eq_true rfl) (Nat.le_of_ble_eq_true rfl) dX12_init_44 (fun H hH hS => ?_)
  replace hH : Hd (ωk G DSM B 0 6 E (nf 0 [7, 8, 9, 20, 21, 22, 23, 24, 25, 26, 27, 28, 29, 30, 31, 32, 34, 35, 36, 37, 38, 40, 41, 42, 44, 45, 47, 48, 51, 52, 54, 55, 56, 57, 58, 59, 60, 61, 62, 64, 65, 66, 67, 68])) μ9 H := Hd.to e10 hH
  replace hS : FS (ωk G DSM B 0 6 E (nf 0 [7, 8, 9, 20, 21, 22, 23, 24, 25, 26, 27, 28, 29, 30, 31, 32, 34, 35, 36, 37, 38, 40, 41, 42, 44, 45, 47, 48, 51, 52, 54, 55, 56, 57, 58, 59, 60, 61, 62, 64, 65, 66, 67, 68])) s H locs := hS
  replace C : Cx (ωk G DSM B 0 6 E (nf 0 [7, 8, 9, 20, 21, 22, 23, 24, 25, 26, 27, 28, 29, 30, 31, 32, 34, 35, 36, 37, 38, 40, 41, 42, 44, 45, 47, 48, 51, 52, 54, 55, 56, 57, 58, 59, 60, 61, 62, 64, 65, 66, 67, 68])) p s m args c cX12_init 1 RX12 := Cx.ofk hok C
  refine k_putr hin2 (k := 7) (Rem := [8, 9, 20, 21, 22, 23, 24, 25, 26, 27, 28, 29, 30, 31, 32, 34, 35, 36, 37, 38, 40, 41, 42, 44, 45, 47, 48, 51, 52, 54, 55, 56, 57, 58, 59, 60, 61, 62, 64, 65, 66, 67, 68]) (ty := tyX12 7) (rest := []) C hH hS (show DSM[0]? = _ from rfl) (by decide) rfl (show 7 < 69 by decide) rfl wd_1194 rfl rfl rfl (by decide) rfl (by decide) (by decide) dX12_init_46 (fun H locs hH hS => ?_)
  replace hS : FS (ωk G DSM B 0 6 E (nf 0 [8, 9, 20, 21, 22, 23, 24, 25, 26, 27, 28, 29, 30, 31, 32, 34, 35, 36, 37, 38, 40, 41, 42, 44, 45, 47, 48, 51, 52, 54, 55, 56, 57, 58, 59, 60, 61, 62, 64, 65, 66, 67, 68])) s H locs := hS
  replace C : Cx (ωk G DSM B 0 6 E (nf 0 [8, 9, 20, 21, 22, 23, 24, 25, 26, 27, 28, 29, 30, 31, 32, 34, 35, 36, 37, 38, 40, 41, 42, 44, 45, 47, 48, 51, 52, 54, 55, 56, 57, 58, 59, 60, 61, 62, 64, 65, 66, 67, 68])) p s m args c cX12_init 1 RX12 := Cx.ofk hok C
  replace hH : Hd (ωk G DSM B 0 6 E (nf 0 [8, 9, 20, 21, 22, 23, 24, 25, 26, 27, 28, 29, 30, 31, 32, 34, 35, 36, 37, 38, 40, 41, 42, 44, 45, 47, 48, 51, 52, 54, 55, 56, 57, 58, 59, 60, 61, 62, 64, 65, 66, 67, 68])) μ9 H := hH
  refine lv_aload_n hx hb dX12_init_49 rfl (lv_at hl 0 rfl) ?_
  refine lv_sipush (v := 403) hx hb dX12_init_50 (by decide) ?_
  have hq := bd_e h; clear h; obtain ⟨μ11, e12, h⟩ := hq
  refine k_newa (atype := .long) (rest := [.ref (B + 0)]) hE C hH hS (by decide) (show DSM[6]? = _ from rfl) rfl (by decide) (by decide) wd_209 (by decide) (by decide) (by decide) (Nat.le_of_ble_eq_true rfl) (Nat.le_of_ble_eq_true rfl) dX12_init_53 (fun H hH hS => ?_)
  replace hH : Hd (ωk G DSM B 0 7 E (nf 0 [8, 9, 20, 21, 22, 23, 24, 25, 26, 27, 28, 29, 30, 31, 32, 34, 35, 36, 37, 38, 40, 41, 42, 44, 45, 47, 48, 51, 52, 54, 55, 56, 57, 58, 59, 60, 61, 62, 64, 65, 66, 67, 68])) μ11 H := Hd.to e12 hH
  replace hS : FS (ωk G DSM B 0 7 E (nf 0 [8, 9, 20, 21, 22, 23, 24, 25, 26, 27, 28, 29, 30, 31, 32, 34, 35, 36, 37, 38, 40, 41, 42, 44, 45, 47, 48, 51, 52, 54, 55, 56, 57, 58, 59, 60, 61, 62, 64, 65, 66, 67, 68])) s H locs := hS
  replace C : Cx (ωk G DSM B 0 7 E (nf 0 [8, 9, 20, 21, 22, 23, 24, 25, 26, 27, 28, 29, 30, 31, 32, 34, 35, 36, 37, 38, 40, 41, 42, 44, 45, 47, 48, 51, 52, 54, 55, 56, 57, 58, 59, 60, 61, 62, 64, 65, 66, 67, 68])) p s m args c cX12_init 1 RX12 := Cx.ofk hok C
  refine k_putr hin2 (k := 8) (Rem := [9, 20, 21, 22, 23, 24, 25, 26, 27, 28, 29, 30, 31, 32, 34, 35, 36, 37, 38, 40, 41, 42, 44, 45, 47, 48, 51, 52, 54, 55, 56, 57, 58, 59, 60, 61, 62, 64, 65, 66, 67, 68]) (ty := tyX12 8) (rest := []) C hH hS (show DSM[0]? = _ from rfl) (by decide) rfl (show 8 < 69 by decide) rfl wd_1195 rfl rfl rfl (by decide) rfl (by decide) (by decide) dX12_init_55 (fun H locs hH hS => ?_)
  replace hS : FS (ωk G DSM B 0 7 E (nf 0 [9, 20, 21, 22, 23, 24, 25, 26, 27, 28, 29, 30, 31, 32, 34, 35, 36, 37, 38, 40, 41, 42, 44, 45, 47, 48, 51, 52, 54, 55, 56, 57, 58, 59, 60, 61, 62, 64, 65, 66, 67, 68])) s H locs := hS
  replace C : Cx (ωk G DSM B 0 7 E (nf 0 [9, 20, 21, 22, 23, 24, 25, 26, 27, 28, 29, 30, 31, 32, 34, 35, 36, 37, 38, 40, 41, 42, 44, 45, 47, 48, 51, 52, 54, 55, 56, 57, 58, 59, 60, 61, 62, 64, 65, 66, 67, 68])) p s m args c cX12_init 1 RX12 := Cx.ofk hok C
  replace hH : Hd (ωk G DSM B 0 7 E (nf 0 [9, 20, 21, 22, 23, 24, 25, 26, 27, 28, 29, 30, 31, 32, 34, 35, 36, 37, 38, 40, 41, 42, 44, 45, 47, 48, 51, 52, 54, 55, 56, 57, 58, 59, 60, 61, 62, 64, 65, 66, 67, 68])) μ11 H := hH
  refine lv_aload_n hx hb dX12_init_58 rfl (lv_at hl 0 rfl) ?_
  refine lv_bipush (v := 21) hx hb dX12_init_59 (by decide) ?_
  have hq := bd_e h; clear h; obtain ⟨μ13, e14, h⟩ := hq
  refine k_newa (atype := .long) (rest := [.ref (B + 0)]) hE C hH hS (by decide) (show DSM[7]? = _ from rfl) rfl (by decide) (by decide) wd_209 (by decide) (by decide) (by decide) (Nat.le_of_ble_eq_true rfl) (Nat.le_of_ble_eq_true rfl) dX12_init_61 (fun H hH hS => ?_)
  replace hH : Hd (ωk G DSM B 0 8 E (nf 0 [9, 20, 21, 22, 23, 24, 25, 26, 27, 28, 29, 30, 31, 32, 34, 35, 36, 37, 38, 40, 41, 42, 44, 45, 47, 48, 51, 52, 54, 55, 56, 57, 58, 59, 60, 61, 62, 64, 65, 66, 67, 68])) μ13 H := Hd.to e14 hH
  replace hS : FS (ωk G DSM B 0 8 E (nf 0 [9, 20, 21, 22, 23, 24, 25, 26, 27, 28, 29, 30, 31, 32, 34, 35, 36, 37, 38, 40, 41, 42, 44, 45, 47, 48, 51, 52, 54, 55, 56, 57, 58, 59, 60, 61, 62, 64, 65, 66, 67, 68])) s H locs := hS
  replace C : Cx (ωk G DSM B 0 8 E (nf 0 [9, 20, 21, 22, 23, 24, 25, 26, 27, 28, 29, 30, 31, 32, 34, 35, 36, 37, 38, 40, 41, 42, 44, 45, 47, 48, 51, 52, 54, 55, 56, 57, 58, 59, 60, 61, 62, 64, 65, 66, 67, 68])) p s m args c cX12_init 1 RX12 := Cx.ofk hok C
  refine k_putr hin2 (k := 9) (Rem := [20, 21, 22, 23, 24, 25, 26, 27, 28, 29, 30, 31, 32, 34, 35, 36, 37, 38, 40, 41, 42, 44, 45, 47, 48, 51, 52, 54, 55, 56, 57, 58, 59, 60, 61, 62, 64, 65, 66, 67, 68]) (ty := tyX12 9) (rest := []) C hH hS (show DSM[0]? = _ from rfl) (by decide) rfl (show 9 < 69 by decide) rfl wd_1196 rfl rfl rfl (by decide) rfl (by decide) (by decide) dX12_init_63 (fun H locs hH hS => ?_)
  replace hS : FS (ωk G DSM B 0 8 E (nf 0 [20, 21, 22, 23, 24, 25, 26, 27, 28, 29, 30, 31, 32, 34, 35, 36, 37, 38, 40, 41, 42, 44, 45, 47, 48, 51, 52, 54, 55, 56, 57, 58, 59, 60, 61, 62, 64, 65, 66, 67, 68])) s H locs := hS
  replace C : Cx (ωk G DSM B 0 8 E (nf 0 [20, 21, 22, 23, 24, 25, 26, 27, 28, 29, 30, 31, 32, 34, 35, 36, 37, 38, 40, 41, 42, 44, 45, 47, 48, 51, 52, 54, 55, 56, 57, 58, 59, 60, 61, 62, 64, 65, 66, 67, 68])) p s m args c cX12_init 1 RX12 := Cx.ofk hok C
  replace hH : Hd (ωk G DSM B 0 8 E (nf 0 [20, 21, 22, 23, 24, 25, 26, 27, 28, 29, 30, 31, 32, 34, 35, 36, 37, 38, 40, 41, 42, 44, 45, 47, 48, 51, 52, 54, 55, 56, 57, 58, 59, 60, 61, 62, 64, 65, 66, 67, 68])) μ13 H := hH
  refine lv_aload_n hx hb dX12_init_66 rfl (lv_at hl 0 rfl) ?_
  refine lv_iconst (v := (-1)) hx hb dX12_init_67 (by decide) ?_
  have hq := bd_e h; clear h; obtain ⟨μ15, e16, h⟩ := hq
  refine h_puti (ty := .int) (j := 0) (k := 17) (rest := []) C hH hS ⟨by decide, by decide⟩ (show DSM[0]? = _ from rfl) (by decide) rfl (show 17 < 69 by decide) rfl rfl wd_1204 rfl rfl rfl dX12_init_68 (fun H locs hH hS => ?_)
  replace hH : Hd (ωk G DSM B 0 8 E (nf 0 [20, 21, 22, 23, 24, 25, 26, 27, 28, 29, 30, 31, 32, 34, 35, 36, 37, 38, 40, 41, 42, 44, 45, 47, 48, 51, 52, 54, 55, 56, 57, 58, 59, 60, 61, 62, 64, 65, 66, 67, 68])) μ15 H := Hd.to e16 hH
  replace hS : FS (ωk G DSM B 0 8 E (nf 0 [20, 21, 22, 23, 24, 25, 26, 27, 28, 29, 30, 31, 32, 34, 35, 36, 37, 38, 40, 41, 42, 44, 45, 47, 48, 51, 52, 54, 55, 56, 57, 58, 59, 60, 61, 62, 64, 65, 66, 67, 68])) s H locs := hS
  replace C : Cx (ωk G DSM B 0 8 E (nf 0 [20, 21, 22, 23, 24, 25, 26, 27, 28, 29, 30, 31, 32, 34, 35, 36, 37, 38, 40, 41, 42, 44, 45, 47, 48, 51, 52, 54, 55, 56, 57, 58, 59, 60, 61, 62, 64, 65, 66, 67, 68])) p s m args c cX12_init 1 RX12 := Cx.ofk hok C
  refine lv_aload_n hx hb dX12_init_71 rfl (lv_at hl 0 rfl) ?_
  refine lv_bipush (v := 6) hx hb dX12_init_72 (by decide) ?_
  have hq := bd_e h; clear h; obtain ⟨μ17, e18, h⟩ := hq
  refine k_newa (atype := .long) (rest := [.ref (B + 0)]) hE C hH hS (by decide) (show DSM[8]? = _ from rfl) rfl (by decide) (by decide) wd_209 (by decide) (by decide) (by decide) (Nat.le_of_ble_eq_true rfl) (Nat.le_of_ble_eq_true rfl) dX12_init_74 (fun H hH hS => ?_)
  replace hH : Hd (ωk G DSM B 0 9 E (nf 0 [20, 21, 22, 23, 24, 25, 26, 27, 28, 29, 30, 31, 32, 34, 35, 36, 37, 38, 40, 41, 42, 44, 45, 47, 48, 51, 52, 54, 55, 56, 57, 58, 59, 60, 61, 62, 64, 65, 66, 67, 68])) μ17 H := Hd.to e18 hH
  replace hS : FS (ωk G DSM B 0 9 E (nf 0 [20, 21, 22, 23, 24, 25, 26, 27, 28, 29, 30, 31, 32, 34, 35, 36, 37, 38, 40, 41, 42, 44, 45, 47, 48, 51, 52, 54, 55, 56, 57, 58, 59, 60, 61, 62, 64, 65, 66, 67, 68])) s H locs := hS
  replace C : Cx (ωk G DSM B 0 9 E (nf 0 [20, 21, 22, 23, 24, 25, 26, 27, 28, 29, 30, 31, 32, 34, 35, 36, 37, 38, 40, 41, 42, 44, 45, 47, 48, 51, 52, 54, 55, 56, 57, 58, 59, 60, 61, 62, 64, 65, 66, 67, 68])) p s m args c cX12_init 1 RX12 := Cx.ofk hok C
  refine k_putr hin2 (k := 20) (Rem := [21, 22, 23, 24, 25, 26, 27, 28, 29, 30, 31, 32, 34, 35, 36, 37, 38, 40, 41, 42, 44, 45, 47, 48, 51, 52, 54, 55, 56, 57, 58, 59, 60, 61, 62, 64, 65, 66, 67, 68]) (ty := tyX12 20) (rest := []) C hH hS (show DSM[0]? = _ from rfl) (by decide) rfl (show 20 < 69 by decide) rfl wd_1207 rfl rfl rfl (by decide) rfl (by decide) (by decide) dX12_init_76 (fun H locs hH hS => ?_)
  replace hS : FS (ωk G DSM B 0 9 E (nf 0 [21, 22, 23, 24, 25, 26, 27, 28, 29, 30, 31, 32, 34, 35, 36, 37, 38, 40, 41, 42, 44, 45, 47, 48, 51, 52, 54, 55, 56, 57, 58, 59, 60, 61, 62, 64, 65, 66, 67, 68])) s H locs := hS
  replace C : Cx (ωk G DSM B 0 9 E (nf 0 [21, 22, 23, 24, 25, 26, 27, 28, 29, 30, 31, 32, 34, 35, 36, 37, 38, 40, 41, 42, 44, 45, 47, 48, 51, 52, 54, 55, 56, 57, 58, 59, 60, 61, 62, 64, 65, 66, 67, 68])) p s m args c cX12_init 1 RX12 := Cx.ofk hok C
  replace hH : Hd (ωk G DSM B 0 9 E (nf 0 [21, 22, 23, 24, 25, 26, 27, 28, 29, 30, 31, 32, 34, 35, 36, 37, 38, 40, 41, 42, 44, 45, 47, 48, 51, 52, 54, 55, 56, 57, 58, 59, 60, 61, 62, 64, 65, 66, 67, 68])) μ17 H := hH
  refine lv_aload_n hx hb dX12_init_79 rfl (lv_at hl 0 rfl) ?_
  refine lv_iconst (v := 2) hx hb dX12_init_80 (by decide) ?_
  have hq := bd_e h; clear h; obtain ⟨μ19, e20, h⟩ := hq
  refine k_newa (atype := .int) (rest := [.ref (B + 0)]) hE C hH hS (by decide) (show DSM[9]? = _ from rfl) rfl (by decide) (by decide) wd_210 (by decide) (by decide) (by decide) (Nat.le_of_ble_eq_true rfl) (Nat.le_of_ble_eq_true rfl) dX12_init_81 (fun H hH hS => ?_)
  replace hH : Hd (ωk G DSM B 0 10 E (nf 0 [21, 22, 23, 24, 25, 26, 27, 28, 29, 30, 31, 32, 34, 35, 36, 37, 38, 40, 41, 42, 44, 45, 47, 48, 51, 52, 54, 55, 56, 57, 58, 59, 60, 61, 62, 64, 65, 66, 67, 68])) μ19 H := Hd.to e20 hH
  replace hS : FS (ωk G DSM B 0 10 E (nf 0 [21, 22, 23, 24, 25, 26, 27, 28, 29, 30, 31, 32, 34, 35, 36, 37, 38, 40, 41, 42, 44, 45, 47, 48, 51, 52, 54, 55, 56, 57, 58, 59, 60, 61, 62, 64, 65, 66, 67, 68])) s H locs := hS
  replace C : Cx (ωk G DSM B 0 10 E (nf 0 [21, 22, 23, 24, 25, 26, 27, 28, 29, 30, 31, 32, 34, 35, 36, 37, 38, 40, 41, 42, 44, 45, 47, 48, 51, 52, 54, 55, 56, 57, 58, 59, 60, 61, 62, 64, 65, 66, 67, 68])) p s m args c cX12_init 1 RX12 := Cx.ofk hok C
  refine k_putr hin2 (k := 21) (Rem := [22, 23, 24, 25, 26, 27, 28, 29, 30, 31, 32, 34, 35, 36, 37, 38, 40, 41, 42, 44, 45, 47, 48, 51, 52, 54, 55, 56, 57, 58, 59, 60, 61, 62, 64, 65, 66, 67, 68]) (ty := tyX12 21) (rest := []) C hH hS (show DSM[0]? = _ from rfl) (by decide) rfl (show 21 < 69 by decide) rfl wd_1208 rfl rfl rfl (by decide) rfl (by decide) (by decide) dX12_init_83 (fun H locs hH hS => ?_)
  replace hS : FS (ωk G DSM B 0 10 E (nf 0 [22, 23, 24, 25, 26, 27, 28, 29, 30, 31, 32, 34, 35, 36, 37, 38, 40, 41, 42, 44, 45, 47, 48, 51, 52, 54, 55, 56, 57, 58, 59, 60, 61, 62, 64, 65, 66, 67, 68])) s H locs := hS
  replace C : Cx (ωk G DSM B 0 10 E (nf 0 [22, 23, 24, 25, 26, 27, 28, 29, 30, 31, 32, 34, 35, 36, 37, 38, 40, 41, 42, 44, 45, 47, 48, 51, 52, 54, 55, 56, 57, 58, 59, 60, 61, 62, 64, 65, 66, 67, 68])) p s m args c cX12_init 1 RX12 := Cx.ofk hok C
  replace hH : Hd (ωk G DSM B 0 10 E (nf 0 [22, 23, 24, 25, 26, 27, 28, 29, 30, 31, 32, 34, 35, 36, 37, 38, 40, 41, 42, 44, 45, 47, 48, 51, 52, 54, 55, 56, 57, 58, 59, 60, 61, 62, 64, 65, 66, 67, 68])) μ19 H := hH
  refine lv_aload_n hx hb dX12_init_86 rfl (lv_at hl 0 rfl) ?_
  refine lv_bipush (v := 12) hx hb dX12_init_87 (by decide) ?_
  have hq := bd_e h; clear h; obtain ⟨μ21, e22, h⟩ := hq
  refine k_newa (atype := .int) (rest := [.ref (B + 0)]) hE C hH hS (by decide) (show DSM[10]? = _ from rfl) rfl (by decide) (by decide) wd_210 (by decide) (by decide) (by decide) (Nat.le_of_ble_eq_true rfl) (Nat.le_of_ble_eq_true rfl) dX12_init_89 (fun H hH hS => ?_)
  replace hH : Hd (ωk G DSM B 0 11 E (nf 0 [22, 23, 24, 25, 26, 27, 28, 29, 30, 31, 32, 34, 35, 36, 37, 38, 40, 41, 42, 44, 45, 47, 48, 51, 52, 54, 55, 56, 57, 58, 59, 60, 61, 62, 64, 65, 66, 67, 68])) μ21 H := Hd.to e22 hH
  replace hS : FS (ωk G DSM B 0 11 E (nf 0 [22, 23, 24, 25, 26, 27, 28, 29, 30, 31, 32, 34, 35, 36, 37, 38, 40, 41, 42, 44, 45, 47, 48, 51, 52, 54, 55, 56, 57, 58, 59, 60, 61, 62, 64, 65, 66, 67, 68])) s H locs := hS
  replace C : Cx (ωk G DSM B 0 11 E (nf 0 [22, 23, 24, 25, 26, 27, 28, 29, 30, 31, 32, 34, 35, 36, 37, 38, 40, 41, 42, 44, 45, 47, 48, 51, 52, 54, 55, 56, 57, 58, 59, 60, 61, 62, 64, 65, 66, 67, 68])) p s m args c cX12_init 1 RX12 := Cx.ofk hok C
  refine k_putr hin2 (k := 22) (Rem := [23, 24, 25, 26, 27, 28, 29, 30, 31, 32, 34, 35, 36, 37, 38, 40, 41, 42, 44, 45, 47, 48, 51, 52, 54, 55, 56, 57, 58, 59, 60, 61, 62, 64, 65, 66, 67, 68]) (ty := tyX12 22) (rest := []) C hH hS (show DSM[0]? = _ from rfl) (by decide) rfl (show 22 < 69 by decide) rfl wd_1209 rfl rfl rfl (by decide) rfl (by decide) (by decide) dX12_init_91 (fun H locs hH hS => ?_)
  replace hS : FS (ωk G DSM B 0 11 E (nf 0 [23, 24, 25, 26, 27, 28, 29, 30, 31, 32, 34, 35, 36, 37, 38, 40, 41, 42, 44, 45, 47, 48, 51, 52, 54, 55, 56, 57, 58, 59, 60, 61, 62, 64, 65, 66, 67, 68])) s H locs := hS
  replace C : Cx (ωk G DSM B 0 11 E (nf 0 [23, 24, 25, 26, 27, 28, 29, 30, 31, 32, 34, 35, 36, 37, 38, 40, 41, 42, 44, 45, 47, 48, 51, 52, 54, 55, 56, 57, 58, 59, 60, 61, 62, 64, 65, 66, 67, 68])) p s m args c cX12_init 1 RX12 := Cx.ofk hok C
  replace hH : Hd (ωk G DSM B 0 11 E (nf 0 [23, 24, 25, 26, 27, 28, 29, 30, 31, 32, 34, 35, 36, 37, 38, 40, 41, 42, 44, 45, 47, 48, 51, 52, 54, 55, 56, 57, 58, 59, 60, 61, 62, 64, 65, 66, 67, 68])) μ21 H := hH
  refine lv_aload_n hx hb dX12_init_94 rfl (lv_at hl 0 rfl) ?_
  refine lv_bipush (v := 12) hx hb dX12_init_95 (by decide) ?_
  have hq := bd_e h; clear h; obtain ⟨μ23, e24, h⟩ := hq
  refine k_newa (atype := .int) (rest := [.ref (B + 0)]) hE C hH hS (by decide) (show DSM[11]? = _ from rfl) rfl (by decide) (by decide) wd_210 (by decide) (by decide) (by decide) (Nat.le_of_ble_eq_true rfl) (Nat.le_of_ble_eq_true rfl) dX12_init_97 (fun H hH hS => ?_)
  replace hH : Hd (ωk G DSM B 0 12 E (nf 0 [23, 24, 25, 26, 27, 28, 29, 30, 31, 32, 34, 35, 36, 37, 38, 40, 41, 42, 44, 45, 47, 48, 51, 52, 54, 55, 56, 57, 58, 59, 60, 61, 62, 64, 65, 66, 67, 68])) μ23 H := Hd.to e24 hH
  replace hS : FS (ωk G DSM B 0 12 E (nf 0 [23, 24, 25, 26, 27, 28, 29, 30, 31, 32, 34, 35, 36, 37, 38, 40, 41, 42, 44, 45, 47, 48, 51, 52, 54, 55, 56, 57, 58, 59, 60, 61, 62, 64, 65, 66, 67, 68])) s H locs := hS
  replace C : Cx (ωk G DSM B 0 12 E (nf 0 [23, 24, 25, 26, 27, 28, 29, 30, 31, 32, 34, 35, 36, 37, 38, 40, 41, 42, 44, 45, 47, 48, 51, 52, 54, 55, 56, 57, 58, 59, 60, 61, 62, 64, 65, 66, 67, 68])) p s m args c cX12_init 1 RX12 := Cx.ofk hok C
  refine k_putr hin2 (k := 23) (Rem := [24, 25, 26, 27, 28, 29, 30, 31, 32, 34, 35, 36, 37, 38, 40, 41, 42, 44, 45, 47, 48, 51, 52, 54, 55, 56, 57, 58, 59, 60, 61, 62, 64, 65, 66, 67, 68]) (ty := tyX12 23) (rest := []) C hH hS (show DSM[0]? = _ from rfl) (by decide) rfl (show 23 < 69 by decide) rfl wd_1210 rfl rfl rfl (by decide) rfl (by decide) (by decide) dX12_init_99 (fun H locs hH hS => ?_)
  replace hS : FS (ωk G DSM B 0 12 E (nf 0 [24, 25, 26, 27, 28, 29, 30, 31, 32, 34, 35, 36, 37, 38, 40, 41, 42, 44, 45, 47, 48, 51, 52, 54, 55, 56, 57, 58, 59, 60, 61, 62, 64, 65, 66, 67, 68])) s H locs := hS
  replace C : Cx (ωk G DSM B 0 12 E (nf 0 [24, 25, 26, 27, 28, 29, 30, 31, 32, 34, 35, 36, 37, 38, 40, 41, 42, 44, 45, 47, 48, 51, 52, 54, 55, 56, 57, 58, 59, 60, 61, 62, 64, 65, 66, 67, 68])) p s m args c cX12_init 1 RX12 := Cx.ofk hok C
  replace hH : Hd (ωk G DSM B 0 12 E (nf 0 [24, 25, 26, 27, 28, 29, 30, 31, 32, 34, 35, 36, 37, 38, 40, 41, 42, 44, 45, 47, 48, 51, 52, 54, 55, 56, 57, 58, 59, 60, 61, 62, 64, 65, 66, 67, 68])) μ23 H := hH
  refine lv_aload_n hx hb dX12_init_102 rfl (lv_at hl 0 rfl) ?_
  refine lv_bipush (v := 12) hx hb dX12_init_103 (by decide) ?_
  have hq := bd_e h; clear h; obtain ⟨μ25, e26, h⟩ := hq
  refine k_newa (atype := .int) (rest := [.ref (B + 0)]) hE C hH hS (by decide) (show DSM[12]? = _ from rfl) rfl (by decide) (by decide) wd_210 (by decide) (by decide) (by decide) (Nat.le_of_ble_eq_true rfl) (Nat.le_of_ble_eq_true rfl) dX12_init_105 (fun H hH hS => ?_)
  replace hH : Hd (ωk G DSM B 0 13 E (nf 0 [24, 25, 26, 27, 28, 29, 30, 31, 32, 34, 35, 36, 37, 38, 40, 41, 42, 44, 45, 47, 48, 51, 52, 54, 55, 56, 57, 58, 59, 60, 61, 62, 64, 65, 66, 67, 68])) μ25 H := Hd.to e26 hH
  replace hS : FS (ωk G DSM B 0 13 E (nf 0 [24, 25, 26, 27, 28, 29, 30, 31, 32, 34, 35, 36, 37, 38, 40, 41, 42, 44, 45, 47, 48, 51, 52, 54, 55, 56, 57, 58, 59, 60, 61, 62, 64, 65, 66, 67, 68])) s H locs := hS
  replace C : Cx (ωk G DSM B 0 13 E (nf 0 [24, 25, 26, 27, 28, 29, 30, 31, 32, 34, 35, 36, 37, 38, 40, 41, 42, 44, 45, 47, 48, 51, 52, 54, 55, 56, 57, 58, 59, 60, 61, 62, 64, 65, 66, 67, 68])) p s m args c cX12_init 1 RX12 := Cx.ofk hok C
  refine k_putr hin2 (k := 24) (Rem := [25, 26, 27, 28, 29, 30, 31, 32, 34, 35, 36, 37, 38, 40, 41, 42, 44, 45, 47, 48, 51, 52, 54, 55, 56, 57, 58, 59, 60, 61, 62, 64, 65, 66, 67, 68]) (ty := tyX12 24) (rest := []) C hH hS (show DSM[0]? = _ from rfl) (by decide) rfl (show 24 < 69 by decide) rfl wd_1211 rfl rfl rfl (by decide) rfl (by decide) (by decide) dX12_init_107 (fun H locs hH hS => ?_)
  replace hS : FS (ωk G DSM B 0 13 E (nf 0 [25, 26, 27, 28, 29, 30, 31, 32, 34, 35, 36, 37, 38, 40, 41, 42, 44, 45, 47, 48, 51, 52, 54, 55, 56, 57, 58, 59, 60, 61, 62, 64, 65, 66, 67, 68])) s H locs := hS
  replace C : Cx (ωk G DSM B 0 13 E (nf 0 [25, 26, 27, 28, 29, 30, 31, 32, 34, 35, 36, 37, 38, 40, 41, 42, 44, 45, 47, 48, 51, 52, 54, 55, 56, 57, 58, 59, 60, 61, 62, 64, 65, 66, 67, 68])) p s m args c cX12_init 1 RX12 := Cx.ofk hok C
  replace hH : Hd (ωk G DSM B 0 13 E (nf 0 [25, 26, 27, 28, 29, 30, 31, 32, 34, 35, 36, 37, 38, 40, 41, 42, 44, 45, 47, 48, 51, 52, 54, 55, 56, 57, 58, 59, 60, 61, 62, 64, 65, 66, 67, 68])) μ25 H := hH
  refine lv_aload_n hx hb dX12_init_110 rfl (lv_at hl 0 rfl) ?_
  refine lv_bipush (v := 12) hx hb dX12_init_111 (by decide) ?_
  have hq := bd_e h; clear h; obtain ⟨μ27, e28, h⟩ := hq
  refine k_newa (atype := .int) (rest := [.ref (B + 0)]) hE C hH hS (by decide) (show DSM[13]? = _ from rfl) rfl (by decide) (by decide) wd_210 (by decide) (by decide) (by decide) (Nat.le_of_ble_eq_true rfl) (Nat.le_of_ble_eq_true rfl) dX12_init_113 (fun H hH hS => ?_)
  replace hH : Hd (ωk G DSM B 0 14 E (nf 0 [25, 26, 27, 28, 29, 30, 31, 32, 34, 35, 36, 37, 38, 40, 41, 42, 44, 45, 47, 48, 51, 52, 54, 55, 56, 57, 58, 59, 60, 61, 62, 64, 65, 66, 67, 68])) μ27 H := Hd.to e28 hH
  replace hS : FS (ωk G DSM B 0 14 E (nf 0 [25, 26, 27, 28, 29, 30, 31, 32, 34, 35, 36, 37, 38, 40, 41, 42, 44, 45, 47, 48, 51, 52, 54, 55, 56, 57, 58, 59, 60, 61, 62, 64, 65, 66, 67, 68])) s H locs := hS
  replace C : Cx (ωk G DSM B 0 14 E (nf 0 [25, 26, 27, 28, 29, 30, 31, 32, 34, 35, 36, 37, 38, 40, 41, 42, 44, 45, 47, 48, 51, 52, 54, 55, 56, 57, 58, 59, 60, 61, 62, 64, 65, 66, 67, 68])) p s m args c cX12_init 1 RX12 := Cx.ofk hok C
  refine k_putr hin2 (k := 25) (Rem := [26, 27, 28, 29, 30, 31, 32, 34, 35, 36, 37, 38, 40, 41, 42, 44, 45, 47, 48, 51, 52, 54, 55, 56, 57, 58, 59, 60, 61, 62, 64, 65, 66, 67, 68]) (ty := tyX12 25) (rest := []) C hH hS (show DSM[0]? = _ from rfl) (by decide) rfl (show 25 < 69 by decide) rfl wd_1212 rfl rfl rfl (by decide) rfl (by decide) (by decide) dX12_init_115 (fun H locs hH hS => ?_)
  replace hS : FS (ωk G DSM B 0 14 E (nf 0 [26, 27, 28, 29, 30, 31, 32, 34, 35, 36, 37, 38, 40, 41, 42, 44, 45, 47, 48, 51, 52, 54, 55, 56, 57, 58, 59, 60, 61, 62, 64, 65, 66, 67, 68])) s H locs := hS
  replace C : Cx (ωk G DSM B 0 14 E (nf 0 [26, 27, 28, 29, 30, 31, 32, 34, 35, 36, 37, 38, 40, 41, 42, 44, 45, 47, 48, 51, 52, 54, 55, 56, 57, 58, 59, 60, 61, 62, 64, 65, 66, 67, 68])) p s m args c cX12_init 1 RX12 := Cx.ofk hok C
  replace hH : Hd (ωk G DSM B 0 14 E (nf 0 [26, 27, 28, 29, 30, 31, 32, 34, 35, 36, 37, 38, 40, 41, 42, 44, 45, 47, 48, 51, 52, 54, 55, 56, 57, 58, 59, 60, 61, 62, 64, 65, 66, 67, 68])) μ27 H := hH
  refine lv_aload_n hx hb dX12_init_118 rfl (lv_at hl 0 rfl) ?_
  refine lv_bipush (v := 12) hx hb dX12_init_119 (by decide) ?_
  have hq := bd_e h; clear h; obtain ⟨μ29, e30, h⟩ := hq
  refine k_newa (atype := .int) (rest := [.ref (B + 0)]) hE C hH hS (by decide) (show DSM[14]? = _ from rfl) rfl (by decide) (by decide) wd_210 (by decide) (by decide) (by decide) (Nat.le_of_ble_eq_true rfl) (Nat.le_of_ble_eq_true rfl) dX12_init_121 (fun H hH hS => ?_)
  replace hH : Hd (ωk G DSM B 0 15 E (nf 0 [26, 27, 28, 29, 30, 31, 32, 34, 35, 36, 37, 38, 40, 41, 42, 44, 45, 47, 48, 51, 52, 54, 55, 56, 57, 58, 59, 60, 61, 62, 64, 65, 66, 67, 68])) μ29 H := Hd.to e30 hH
  replace hS : FS (ωk G DSM B 0 15 E (nf 0 [26, 27, 28, 29, 30, 31, 32, 34, 35, 36, 37, 38, 40, 41, 42, 44, 45, 47, 48, 51, 52, 54, 55, 56, 57, 58, 59, 60, 61, 62, 64, 65, 66, 67, 68])) s H locs := hS
  replace C : Cx (ωk G DSM B 0 15 E (nf 0 [26, 27, 28, 29, 30, 31, 32, 34, 35, 36, 37, 38, 40, 41, 42, 44, 45, 47, 48, 51, 52, 54, 55, 56, 57, 58, 59, 60, 61, 62, 64, 65, 66, 67, 68])) p s m args c cX12_init 1 RX12 := Cx.ofk hok C
  refine k_putr hin2 (k := 26) (Rem := [27, 28, 29, 30, 31, 32, 34, 35, 36, 37, 38, 40, 41, 42, 44, 45, 47, 48, 51, 52, 54, 55, 56, 57, 58, 59, 60, 61, 62, 64, 65, 66, 67, 68]) (ty := tyX12 26) (rest := []) C hH hS (show DSM[0]? = _ from rfl) (by decide) rfl (show 26 < 69 by decide) rfl wd_1213 rfl rfl rfl (by decide) rfl (by decide) (by decide) dX12_init_123 (fun H locs hH hS => ?_)
  replace hS : FS (ωk G DSM B 0 15 E (nf 0 [27, 28, 29, 30, 31, 32, 34, 35, 36, 37, 38, 40, 41, 42, 44, 45, 47, 48, 51, 52, 54, 55, 56, 57, 58, 59, 60, 61, 62, 64, 65, 66, 67, 68])) s H locs := hS
  replace C : Cx (ωk G DSM B 0 15 E (nf 0 [27, 28, 29, 30, 31, 32, 34, 35, 36, 37, 38, 40, 41, 42, 44, 45, 47, 48, 51, 52, 54, 55, 56, 57, 58, 59, 60, 61, 62, 64, 65, 66, 67, 68])) p s m args c cX12_init 1 RX12 := Cx.ofk hok C
  replace hH : Hd (ωk G DSM B 0 15 E (nf 0 [27, 28, 29, 30, 31, 32, 34, 35, 36, 37, 38, 40, 41, 42, 44, 45, 47, 48, 51, 52, 54, 55, 56, 57, 58, 59, 60, 61, 62, 64, 65, 66, 67, 68])) μ29 H := hH
  refine lv_aload_n hx hb dX12_init_126 rfl (lv_at hl 0 rfl) ?_
  refine lv_iconst (v := 2) hx hb dX12_init_127 (by decide) ?_
  have hq := bd_e h; clear h; obtain ⟨μ31, e32, h⟩ := hq
  refine k_newa (atype := .int) (rest := [.ref (B + 0)]) hE C hH hS (by decide) (show DSM[15]? = _ from rfl) rfl (by decide) (by decide) wd_210 (by decide) (by decide) (by decide) (Nat.le_of_ble_eq_true rfl) (Nat.le_of_ble_eq_true rfl) dX12_init_128 (fun H hH hS => ?_)
  replace hH : Hd (ωk G DSM B 0 16 E (nf 0 [27, 28, 29, 30, 31, 32, 34, 35, 36, 37, 38, 40, 41, 42, 44, 45, 47, 48, 51, 52, 54, 55, 56, 57, 58, 59, 60, 61, 62, 64, 65, 66, 67, 68])) μ31 H := Hd.to e32 hH
  replace hS : FS (ωk G DSM B 0 16 E (nf 0 [27, 28, 29, 30, 31, 32, 34, 35, 36, 37, 38, 40, 41, 42, 44, 45, 47, 48, 51, 52, 54, 55, 56, 57, 58, 59, 60, 61, 62, 64, 65, 66, 67, 68])) s H locs := hS
  replace C : Cx (ωk G DSM B 0 16 E (nf 0 [27, 28, 29, 30, 31, 32, 34, 35, 36, 37, 38, 40, 41, 42, 44, 45, 47, 48, 51, 52, 54, 55, 56, 57, 58, 59, 60, 61, 62, 64, 65, 66, 67, 68])) p s m args c cX12_init 1 RX12 := Cx.ofk hok C
  refine k_putr hin2 (k := 27) (Rem := [28, 29, 30, 31, 32, 34, 35, 36, 37, 38, 40, 41, 42, 44, 45, 47, 48, 51, 52, 54, 55, 56, 57, 58, 59, 60, 61, 62, 64, 65, 66, 67, 68]) (ty := tyX12 27) (rest := []) C hH hS (show DSM[0]? = _ from rfl) (by decide) rfl (show 27 < 69 by decide) rfl wd_1214 rfl rfl rfl (by decide) rfl (by decide) (by decide) dX12_init_130 (fun H locs hH hS => ?_)
  replace hS : FS (ωk G DSM B 0 16 E (nf 0 [28, 29, 30, 31, 32, 34, 35, 36, 37, 38, 40, 41, 42, 44, 45, 47, 48, 51, 52, 54, 55, 56, 57, 58, 59, 60, 61, 62, 64, 65, 66, 67, 68])) s H locs := hS
  replace C : Cx (ωk G DSM B 0 16 E (nf 0 [28, 29, 30, 31, 32, 34, 35, 36, 37, 38, 40, 41, 42, 44, 45, 47, 48, 51, 52, 54, 55, 56, 57, 58, 59, 60, 61, 62, 64, 65, 66, 67, 68])) p s m args c cX12_init 1 RX12 := Cx.ofk hok C
  replace hH : Hd (ωk G DSM B 0 16 E (nf 0 [28, 29, 30, 31, 32, 34, 35, 36, 37, 38, 40, 41, 42, 44, 45, 47, 48, 51, 52, 54, 55, 56, 57, 58, 59, 60, 61, 62, 64, 65, 66, 67, 68])) μ31 H := hH
  refine lv_aload_n hx hb dX12_init_133 rfl (lv_at hl 0 rfl) ?_
  refine lv_iconst (v := 2) hx hb dX12_init_134 (by decide) ?_
  have hq := bd_e h; clear h; obtain ⟨μ33, e34, h⟩ := hq
  refine k_newa (atype := .int) (rest := [.ref (B + 0)]) hE C hH hS (by decide) (show DSM[16]? = _ from rfl) rfl (by decide) (by decide) wd_210 (by decide) (by decide) (by decide) (Nat.le_of_ble_eq_true rfl) (Nat.le_of_ble_eq_true rfl) dX12_init_135 (fun H hH hS => ?_)
  replace hH : Hd (ωk G DSM B 0 17 E (nf 0 [28, 29, 30, 31, 32, 34, 35, 36, 37, 38, 40, 41, 42, 44, 45, 47, 48, 51, 52, 54, 55, 56, 57, 58, 59, 60, 61, 62, 64, 65, 66, 67, 68])) μ33 H := Hd.to e34 hH
  replace hS : FS (ωk G DSM B 0 17 E (nf 0 [28, 29, 30, 31, 32, 34, 35, 36, 37, 38, 40, 41, 42, 44, 45, 47, 48, 51, 52, 54, 55, 56, 57, 58, 59, 60, 61, 62, 64, 65, 66, 67, 68])) s H locs := hS
  replace C : Cx (ωk G DSM B 0 17 E (nf 0 [28, 29, 30, 31, 32, 34, 35, 36, 37, 38, 40, 41, 42, 44, 45, 47, 48, 51, 52, 54, 55, 56, 57, 58, 59, 60, 61, 62, 64, 65, 66, 67, 68])) p s m args c cX12_init 1 RX12 := Cx.ofk hok C
  refine k_putr hin2 (k := 28) (Rem := [29, 30, 31, 32, 34, 35, 36, 37, 38, 40, 41, 42, 44, 45, 47, 48, 51, 52, 54, 55, 56, 57, 58, 59, 60, 61, 62, 64, 65, 66, 67, 68]) (ty := tyX12 28) (rest := []) C hH hS (show DSM[0]? = _ from rfl) (by decide) rfl (show 28 < 69 by decide) rfl wd_1215 rfl rfl rfl (by decide) rfl (by decide) (by decide) dX12_init_137 (fun H locs hH hS => ?_)
  replace hS : FS (ωk G DSM B 0 17 E (nf 0 [29, 30, 31, 32, 34, 35, 36, 37, 38, 40, 41, 42, 44, 45, 47, 48, 51, 52, 54, 55, 56, 57, 58, 59, 60, 61, 62, 64, 65, 66, 67, 68])) s H locs := hS
  replace C : Cx (ωk G DSM B 0 17 E (nf 0 [29, 30, 31, 32, 34, 35, 36, 37, 38, 40, 41, 42, 44, 45, 47, 48, 51, 52, 54, 55, 56, 57, 58, 59, 60, 61, 62, 64, 65, 66, 67, 68])) p s m args c cX12_init 1 RX12 := Cx.ofk hok C
  replace hH : Hd (ωk G DSM B 0 17 E (nf 0 [29, 30, 31, 32, 34, 35, 36, 37, 38, 40, 41, 42, 44, 45, 47, 48, 51, 52, 54, 55, 56, 57, 58, 59, 60, 61, 62, 64, 65, 66, 67, 68])) μ33 H := hH
  refine lv_aload_n hx hb dX12_init_140 rfl (lv_at hl 0 rfl) ?_
  refine lv_iconst (v := 2) hx hb dX12_init_141 (by decide) ?_
  have hq := bd_e h; clear h; obtain ⟨μ35, e36, h⟩ := hq
  refine k_newa (atype := .int) (rest := [.ref (B + 0)]) hE C hH hS (by decide) (show DSM[17]? = _ from rfl) rfl (by decide) (by decide) wd_210 (by decide) (by decide) (by decide) (Nat.le_of_ble_eq_true rfl) (Nat.le_of_ble_eq_true rfl) dX12_init_142 (fun H hH hS => ?_)
  replace hH : Hd (ωk G DSM B 0 18 E (nf 0 [29, 30, 31, 32, 34, 35, 36, 37, 38, 40, 41, 42, 44, 45, 47, 48, 51, 52, 54, 55, 56, 57, 58, 59, 60, 61, 62, 64, 65, 66, 67, 68])) μ35 H := Hd.to e36 hH
  replace hS : FS (ωk G DSM B 0 18 E (nf 0 [29, 30, 31, 32, 34, 35, 36, 37, 38, 40, 41, 42, 44, 45, 47, 48, 51, 52, 54, 55, 56, 57, 58, 59, 60, 61, 62, 64, 65, 66, 67, 68])) s H locs := hS
  replace C : Cx (ωk G DSM B 0 18 E (nf 0 [29, 30, 31, 32, 34, 35, 36, 37, 38, 40, 41, 42, 44, 45, 47, 48, 51, 52, 54, 55, 56, 57, 58, 59, 60, 61, 62, 64, 65, 66, 67, 68])) p s m args c cX12_init 1 RX12 := Cx.ofk hok C
  refine k_putr hin2 (k := 29) (Rem := [30, 31, 32, 34, 35, 36, 37, 38, 40, 41, 42, 44, 45, 47, 48, 51, 52, 54, 55, 56, 57, 58, 59, 60, 61, 62, 64, 65, 66, 67, 68]) (ty := tyX12 29) (rest := []) C hH hS (show DSM[0]? = _ from rfl) (by decide) rfl (show 29 < 69 by decide) rfl wd_1216 rfl rfl rfl (by decide) rfl (by decide) (by decide) dX12_init_144 (fun H locs hH hS => ?_)
  replace hS : FS (ωk G DSM B 0 18 E (nf 0 [30, 31, 32, 34, 35, 36, 37, 38, 40, 41, 42, 44, 45, 47, 48, 51, 52, 54, 55, 56, 57, 58, 59, 60, 61, 62, 64, 65, 66, 67, 68])) s H locs := hS
  replace C : Cx (ωk G DSM B 0 18 E (nf 0 [30, 31, 32, 34, 35, 36, 37, 38, 40, 41, 42, 44, 45, 47, 48, 51, 52, 54, 55, 56, 57, 58, 59, 60, 61, 62, 64, 65, 66, 67, 68])) p s m args c cX12_init 1 RX12 := Cx.ofk hok C
  replace hH : Hd (ωk G DSM B 0 18 E (nf 0 [30, 31, 32, 34, 35, 36, 37, 38, 40, 41, 42, 44, 45, 47, 48, 51, 52, 54, 55, 56, 57, 58, 59, 60, 61, 62, 64, 65, 66, 67, 68])) μ35 H := hH
  refine lv_aload_n hx hb dX12_init_147 rfl (lv_at hl 0 rfl) ?_
  refine lv_iconst (v := 2) hx hb dX12_init_148 (by decide) ?_
  have hq := bd_e h; clear h; obtain ⟨μ37, e38, h⟩ := hq
  refine k_newa (atype := .int) (rest := [.ref (B + 0)]) hE C hH hS (by decide) (show DSM[18]? = _ from rfl) rfl (by decide) (by decide) wd_210 (by decide) (by decide) (by decide) (Nat.le_of_ble_eq_true rfl) (Nat.le_of_ble_eq_true rfl) dX12_init_149 (fun H hH hS => ?_)
  replace hH : Hd (ωk G DSM B 0 19 E (nf 0 [30, 31, 32, 34, 35, 36, 37, 38, 40, 41, 42, 44, 45, 47, 48, 51, 52, 54, 55, 56, 57, 58, 59, 60, 61, 62, 64, 65, 66, 67, 68])) μ37 H := Hd.to e38 hH
  replace hS : FS (ωk G DSM B 0 19 E (nf 0 [30, 31, 32, 34, 35, 36, 37, 38, 40, 41, 42, 44, 45, 47, 48, 51, 52, 54, 55, 56, 57, 58, 59, 60, 61, 62, 64, 65, 66, 67, 68])) s H locs := hS
  replace C : Cx (ωk G DSM B 0 19 E (nf 0 [30, 31, 32, 34, 35, 36, 37, 38, 40, 41, 42, 44, 45, 47, 48, 51, 52, 54, 55, 56, 57, 58, 59, 60, 61, 62, 64, 65, 66, 67, 68])) p s m args c cX12_init 1 RX12 := Cx.ofk hok C
  refine k_putr hin2 (k := 30) (Rem := [31, 32, 34, 35, 36, 37, 38, 40, 41, 42, 44, 45, 47, 48, 51, 52, 54, 55, 56, 57, 58, 59, 60, 61, 62, 64, 65, 66, 67, 68]) (ty := tyX12 30) (rest := []) C hH hS (show DSM[0]? = _ from rfl) (by decide) rfl (show 30 < 69 by decide) rfl wd_1217 rfl rfl rfl (by decide) rfl (by decide) (by decide) dX12_init_151 (fun H locs hH hS => ?_)
  replace hS : FS (ωk G DSM B 0 19 E (nf 0 [31, 32, 34, 35, 36, 37, 38, 40, 41, 42, 44, 45, 47, 48, 51, 52, 54, 55, 56, 57, 58, 59, 60, 61, 62, 64, 65, 66, 67, 68])) s H locs := hS
  replace C : Cx (ωk G DSM B 0 19 E (nf 0 [31, 32, 34, 35, 36, 37, 38, 40, 41, 42, 44, 45, 47, 48, 51, 52, 54, 55, 56, 57, 58, 59, 60, 61, 62, 64, 65, 66, 67, 68])) p s m args c cX12_init 1 RX12 := Cx.ofk hok C
  replace hH : Hd (ωk G DSM B 0 19 E (nf 0 [31, 32, 34, 35, 36, 37, 38, 40, 41, 42, 44, 45, 47, 48, 51, 52, 54, 55, 56, 57, 58, 59, 60, 61, 62, 64, 65, 66, 67, 68])) μ37 H := hH
  refine lv_aload_n hx hb dX12_init_154 rfl (lv_at hl 0 rfl) ?_
  refine lv_bipush (v := 8) hx hb dX12_init_155 (by decide) ?_
  have hq := bd_e h; clear h; obtain ⟨μ39, e40, h⟩ := hq
  refine k_newa (atype := .int) (rest := [.ref (B + 0)]) hE C hH hS (by decide) (show DSM[19]? = _ from rfl) rfl (by decide) (by decide) wd_210 (by decide) (by decide) (by decide) (Nat.le_of_ble_eq_true rfl) (Nat.le_of_ble_eq_true rfl) dX12_init_157 (fun H hH hS => ?_)
  replace hH : Hd (ωk G DSM B 0 20 E (nf 0 [31, 32, 34, 35, 36, 37, 38, 40, 41, 42, 44, 45, 47, 48, 51, 52, 54, 55, 56, 57, 58, 59, 60, 61, 62, 64, 65, 66, 67, 68])) μ39 H := Hd.to e40 hH
  replace hS : FS (ωk G DSM B 0 20 E (nf 0 [31, 32, 34, 35, 36, 37, 38, 40, 41, 42, 44, 45, 47, 48, 51, 52, 54, 55, 56, 57, 58, 59, 60, 61, 62, 64, 65, 66, 67, 68])) s H locs := hS
  replace C : Cx (ωk G DSM B 0 20 E (nf 0 [31, 32, 34, 35, 36, 37, 38, 40, 41, 42, 44, 45, 47, 48, 51, 52, 54, 55, 56, 57, 58, 59, 60, 61, 62, 64, 65, 66, 67, 68])) p s m args c cX12_init 1 RX12 := Cx.ofk hok C
  refine k_putr hin2 (k := 31) (Rem := [32, 34, 35, 36, 37, 38, 40, 41, 42, 44, 45, 47, 48, 51, 52, 54, 55, 56, 57, 58, 59, 60, 61, 62, 64, 65, 66, 67, 68]) (ty := tyX12 31) (rest := []) C hH hS (show DSM[0]? = _ from rfl) (by decide) rfl (show 31 < 69 by decide) rfl wd_1218 rfl rfl rfl (by decide) rfl (by decide) (by decide) dX12_init_159 (fun H locs hH hS => ?_)
  replace hS : FS (ωk G DSM B 0 20 E (nf 0 [32, 34, 35, 36, 37, 38, 40, 41, 42, 44, 45, 47, 48, 51, 52, 54, 55, 56, 57, 58, 59, 60, 61, 62, 64, 65, 66, 67, 68])) s H locs := hS
  replace C : Cx (ωk G DSM B 0 20 E (nf 0 [32, 34, 35, 36, 37, 38, 40, 41, 42, 44, 45, 47, 48, 51, 52, 54, 55, 56, 57, 58, 59, 60, 61, 62, 64, 65, 66, 67, 68])) p s m args c cX12_init 1 RX12 := Cx.ofk hok C
  replace hH : Hd (ωk G DSM B 0 20 E (nf 0 [32, 34, 35, 36, 37, 38, 40, 41, 42, 44, 45, 47, 48, 51, 52, 54, 55, 56, 57, 58, 59, 60, 61, 62, 64, 65, 66, 67, 68])) μ39 H := hH
  refine lv_aload_n hx hb dX12_init_162 rfl (lv_at hl 0 rfl) ?_
  refine lv_bipush (v := 8) hx hb dX12_init_163 (by decide) ?_
  have hq := bd_e h; clear h; obtain ⟨μ41, e42, h⟩ := hq
  refine k_newa (atype := .int) (rest := [.ref (B + 0)]) hE C hH hS (by decide) (show DSM[20]? = _ from rfl) rfl (by decide) (by decide) wd_210 (by decide) (by decide) (by decide) (Nat.le_of_ble_eq_true rfl) (Nat.le_of_ble_eq_true rfl) dX12_init_165 (fun H hH hS => ?_)
  replace hH : Hd (ωk G DSM B 0 21 E (nf 0 [32, 34, 35, 36, 37, 38, 40, 41, 42, 44, 45, 47, 48, 51, 52, 54, 55, 56, 57, 58, 59, 60, 61, 62, 64, 65, 66, 67, 68])) μ41 H := Hd.to e42 hH
  replace hS : FS (ωk G DSM B 0 21 E (nf 0 [32, 34, 35, 36, 37, 38, 40, 41, 42, 44, 45, 47, 48, 51, 52, 54, 55, 56, 57, 58, 59, 60, 61, 62, 64, 65, 66, 67, 68])) s H locs := hS
  replace C : Cx (ωk G DSM B 0 21 E (nf 0 [32, 34, 35, 36, 37, 38, 40, 41, 42, 44, 45, 47, 48, 51, 52, 54, 55, 56, 57, 58, 59, 60, 61, 62, 64, 65, 66, 67, 68])) p s m args c cX12_init 1 RX12 := Cx.ofk hok C
  refine k_putr hin2 (k := 32) (Rem := [34, 35, 36, 37, 38, 40, 41, 42, 44, 45, 47, 48, 51, 52, 54, 55, 56, 57, 58, 59, 60, 61, 62, 64, 65, 66, 67, 68]) (ty := tyX12 32) (rest := []) C hH hS (show DSM[0]? = _ from rfl) (by decide) rfl (show 32 < 69 by decide) rfl wd_1219 rfl rfl rfl (by decide) rfl (by decide) (by decide) dX12_init_167 (fun H locs hH hS => ?_)
  replace hS : FS (ωk G DSM B 0 21 E (nf 0 [34, 35, 36, 37, 38, 40, 41, 42, 44, 45, 47, 48, 51, 52, 54, 55, 56, 57, 58, 59, 60, 61, 62, 64, 65, 66, 67, 68])) s H locs := hS
  replace C : Cx (ωk G DSM B 0 21 E (nf 0 [34, 35, 36, 37, 38, 40, 41, 42, 44, 45, 47, 48, 51, 52, 54, 55, 56, 57, 58, 59, 60, 61, 62, 64, 65, 66, 67, 68])) p s m args c cX12_init 1 RX12 := Cx.ofk hok C
  replace hH : Hd (ωk G DSM B 0 21 E (nf 0 [34, 35, 36, 37, 38, 40, 41, 42, 44, 45, 47, 48, 51, 52, 54, 55, 56, 57, 58, 59, 60, 61, 62, 64, 65, 66, 67, 68])) μ41 H := hH
  refine lv_aload_n hx hb dX12_init_170 rfl (lv_at hl 0 rfl) ?_
  refine lv_sipush (v := 260) hx hb dX12_init_171 (by decide) ?_
  have hq := bd_e h; clear h; obtain ⟨μ43, e44, h⟩ := hq
  refine k_newa (atype := .boolean) (rest := [.ref (B + 0)]) hE C hH hS (by decide) (show DSM[21]? = _ from rfl) rfl (by decide) (by decide) wd_374 (by decide) (by decide) (by decide) (Nat.le_of_ble_eq_true rfl) (Nat.le_of_ble_eq_true rfl) dX12_init_174 (fun H hH hS => ?_)
  replace hH : Hd (ωk G DSM B 0 22 E (nf 0 [34, 35, 36, 37, 38, 40, 41, 42, 44, 45, 47, 48, 51, 52, 54, 55, 56, 57, 58, 59, 60, 61, 62, 64, 65, 66, 67, 68])) μ43 H := Hd.to e44 hH
  replace hS : FS (ωk G DSM B 0 22 E (nf 0 [34, 35, 36, 37, 38, 40, 41, 42, 44, 45, 47, 48, 51, 52, 54, 55, 56, 57, 58, 59, 60, 61, 62, 64, 65, 66, 67, 68])) s H locs := hS
  replace C : Cx (ωk G DSM B 0 22 E (nf 0 [34, 35, 36, 37, 38, 40, 41, 42, 44, 45, 47, 48, 51, 52, 54, 55, 56, 57, 58, 59, 60, 61, 62, 64, 65, 66, 67, 68])) p s m args c cX12_init 1 RX12 := Cx.ofk hok C
  refine k_putr hin2 (k := 34) (Rem := [35, 36, 37, 38, 40, 41, 42, 44, 45, 47, 48, 51, 52, 54, 55, 56, 57, 58, 59, 60, 61, 62, 64, 65, 66, 67, 68]) (ty := tyX12 34) (rest := []) C hH hS (show DSM[0]? = _ from rfl) (by decide) rfl (show 34 < 69 by decide) rfl wd_1221 rfl rfl rfl (by decide) rfl (by decide) (by decide) dX12_init_176 (fun H locs hH hS => ?_)
  replace hS : FS (ωk G DSM B 0 22 E (nf 0 [35, 36, 37, 38, 40, 41, 42, 44, 45, 47, 48, 51, 52, 54, 55, 56, 57, 58, 59, 60, 61, 62, 64, 65, 66, 67, 68])) s H locs := hS
  replace C : Cx (ωk G DSM B 0 22 E (nf 0 [35, 36, 37, 38, 40, 41, 42, 44, 45, 47, 48, 51, 52, 54, 55, 56, 57, 58, 59, 60, 61, 62, 64, 65, 66, 67, 68])) p s m args c cX12_init 1 RX12 := Cx.ofk hok C
  replace hH : Hd (ωk G DSM B 0 22 E (nf 0 [35, 36, 37, 38, 40, 41, 42, 44, 45, 47, 48, 51, 52, 54, 55, 56, 57, 58, 59, 60, 61, 62, 64, 65, 66, 67, 68])) μ43 H := hH
  refine lv_aload_n hx hb dX12_init_179 rfl (lv_at hl 0 rfl) ?_
  refine lv_sipush (v := 260) hx hb dX12_init_180 (by decide) ?_
  have hq := bd_e h; clear h; obtain ⟨μ45, e46, h⟩ := hq
  refine k_newa (atype := .int) (rest := [.ref (B + 0)]) hE C hH hS (by decide) (show DSM[22]? = _ from rfl) rfl (by decide) (by decide) wd_210 (by decide) (by decide) (by decide) (Nat.le_of_ble_eq_true rfl) (Nat.le_of_ble_eq_true rfl) dX12_init_183 (fun H hH hS => ?_)
  replace hH : Hd (ωk G DSM B 0 23 E (nf 0 [35, 36, 37, 38, 40, 41, 42, 44, 45, 47, 48, 51, 52, 54, 55, 56, 57, 58, 59, 60, 61, 62, 64, 65, 66, 67, 68])) μ45 H := Hd.to e46 hH
  replace hS : FS (ωk G DSM B 0 23 E (nf 0 [35, 36, 37, 38, 40, 41, 42, 44, 45, 47, 48, 51, 52, 54, 55, 56, 57, 58, 59, 60, 61, 62, 64, 65, 66, 67, 68])) s H locs := hS
  replace C : Cx (ωk G DSM B 0 23 E (nf 0 [35, 36, 37, 38, 40, 41, 42, 44, 45, 47, 48, 51, 52, 54, 55, 56, 57, 58, 59, 60, 61, 62, 64, 65, 66, 67, 68])) p s m args c cX12_init 1 RX12 := Cx.ofk hok C
  refine k_putr hin2 (k := 35) (Rem := [36, 37, 38, 40, 41, 42, 44, 45, 47, 48, 51, 52, 54, 55, 56, 57, 58, 59, 60, 61, 62, 64, 65, 66, 67, 68]) (ty := tyX12 35) (rest := []) C hH hS (show DSM[0]? = _ from rfl) (by decide) rfl (show 35 < 69 by decide) rfl wd_1222 rfl rfl rfl (by decide) rfl (by decide) (by decide) dX12_init_185 (fun H locs hH hS => ?_)
  replace hS : FS (ωk G DSM B 0 23 E (nf 0 [36, 37, 38, 40, 41, 42, 44, 45, 47, 48, 51, 52, 54, 55, 56, 57, 58, 59, 60, 61, 62, 64, 65, 66, 67, 68])) s H locs := hS
  replace C : Cx (ωk G DSM B 0 23 E (nf 0 [36, 37, 38, 40, 41, 42, 44, 45, 47, 48, 51, 52, 54, 55, 56, 57, 58, 59, 60, 61, 62, 64, 65, 66, 67, 68])) p s m args c cX12_init 1 RX12 := Cx.ofk hok C
  replace hH : Hd (ωk G DSM B 0 23 E (nf 0 [36, 37, 38, 40, 41, 42, 44, 45, 47, 48, 51, 52, 54, 55, 56, 57, 58, 59, 60, 61, 62, 64, 65, 66, 67, 68])) μ45 H := hH
  refine lv_aload_n hx hb dX12_init_188 rfl (lv_at hl 0 rfl) ?_
  refine lv_sipush (v := 260) hx hb dX12_init_189 (by decide) ?_
  have hq := bd_e h; clear h; obtain ⟨μ47, e48, h⟩ := hq
  refine k_newa (atype := .int) (rest := [.ref (B + 0)]) hE C hH hS (by decide) (show DSM[23]? = _ from rfl) rfl (by decide) (by decide) wd_210 (by decide) (by decide) (by decide) (Nat.le_of_ble_eq_true rfl) (Nat.le_of_ble_eq_true rfl) dX12_init_192 (fun H hH hS => ?_)
  replace hH : Hd (ωk G DSM B 0 24 E (nf 0 [36, 37, 38, 40, 41, 42, 44, 45, 47, 48, 51, 52, 54, 55, 56, 57, 58, 59, 60, 61, 62, 64, 65, 66, 67, 68])) μ47 H := Hd.to e48 hH
  replace hS : FS (ωk G DSM B 0 24 E (nf 0 [36, 37, 38, 40, 41, 42, 44, 45, 47, 48, 51, 52, 54, 55, 56, 57, 58, 59, 60, 61, 62, 64, 65, 66, 67, 68])) s H locs := hS
  replace C : Cx (ωk G DSM B 0 24 E (nf 0 [36, 37, 38, 40, 41, 42, 44, 45, 47, 48, 51, 52, 54, 55, 56, 57, 58, 59, 60, 61, 62, 64, 65, 66, 67, 68])) p s m args c cX12_init 1 RX12 := Cx.ofk hok C
  refine k_putr hin2 (k := 36) (Rem := [37, 38, 40, 41, 42, 44, 45, 47, 48, 51, 52, 54, 55, 56, 57, 58, 59, 60, 61, 62, 64, 65, 66, 67, 68]) (ty := tyX12 36) (rest := []) C hH hS (show DSM[0]? = _ from rfl) (by decide) rfl (show 36 < 69 by decide) rfl wd_1223 rfl rfl rfl (by decide) rfl (by decide) (by decide) dX12_init_194 (fun H locs hH hS => ?_)
  replace hS : FS (ωk G DSM B 0 24 E (nf 0 [37, 38, 40, 41, 42, 44, 45, 47, 48, 51, 52, 54, 55, 56, 57, 58, 59, 60, 61, 62, 64, 65, 66, 67, 68])) s H locs := hS
  replace C : Cx (ωk G DSM B 0 24 E (nf 0 [37, 38, 40, 41, 42, 44, 45, 47, 48, 51, 52, 54, 55, 56, 57, 58, 59, 60, 61, 62, 64, 65, 66, 67, 68])) p s m args c cX12_init 1 RX12 := Cx.ofk hok C
  replace hH : Hd (ωk G DSM B 0 24 E (nf 0 [37, 38, 40, 41, 42, 44, 45, 47, 48, 51, 52, 54, 55, 56, 57, 58, 59, 60, 61, 62, 64, 65, 66, 67, 68])) μ47 H := hH
  refine lv_aload_n hx hb dX12_init_197 rfl (lv_at hl 0 rfl) ?_
  refine lv_sipush (v := 260) hx hb dX12_init_198 (by decide) ?_
  have hq := bd_e h; clear h; obtain ⟨μ49, e50, h⟩ := hq
  refine k_newa (atype := .int) (rest := [.ref (B + 0)]) hE C hH hS (by decide) (show DSM[24]? = _ from rfl) rfl (by decide) (by decide) wd_210 (by decide) (by decide) (by decide) (Nat.le_of_ble_eq_true rfl) (Nat.le_of_ble_eq_true rfl) dX12_init_201 (fun H hH hS => ?_)
  replace hH : Hd (ωk G DSM B 0 25 E (nf 0 [37, 38, 40, 41, 42, 44, 45, 47, 48, 51, 52, 54, 55, 56, 57, 58, 59, 60, 61, 62, 64, 65, 66, 67, 68])) μ49 H := Hd.to e50 hH
  replace hS : FS (ωk G DSM B 0 25 E (nf 0 [37, 38, 40, 41, 42, 44, 45, 47, 48, 51, 52, 54, 55, 56, 57, 58, 59, 60, 61, 62, 64, 65, 66, 67, 68])) s H locs := hS
  replace C : Cx (ωk G DSM B 0 25 E (nf 0 [37, 38, 40, 41, 42, 44, 45, 47, 48, 51, 52, 54, 55, 56, 57, 58, 59, 60, 61, 62, 64, 65, 66, 67, 68])) p s m args c cX12_init 1 RX12 := Cx.ofk hok C
  refine k_putr hin2 (k := 37) (Rem := [38, 40, 41, 42, 44, 45, 47, 48, 51, 52, 54, 55, 56, 57, 58, 59, 60, 61, 62, 64, 65, 66, 67, 68]) (ty := tyX12 37) (rest := []) C hH hS (show DSM[0]? = _ from rfl) (by decide) rfl (show 37 < 69 by decide) rfl wd_1224 rfl rfl rfl (by decide) rfl (by decide) (by decide) dX12_init_203 (fun H locs hH hS => ?_)
  replace hS : FS (ωk G DSM B 0 25 E (nf 0 [38, 40, 41, 42, 44, 45, 47, 48, 51, 52, 54, 55, 56, 57, 58, 59, 60, 61, 62, 64, 65, 66, 67, 68])) s H locs := hS
  replace C : Cx (ωk G DSM B 0 25 E (nf 0 [38, 40, 41, 42, 44, 45, 47, 48, 51, 52, 54, 55, 56, 57, 58, 59, 60, 61, 62, 64, 65, 66, 67, 68])) p s m args c cX12_init 1 RX12 := Cx.ofk hok C
  replace hH : Hd (ωk G DSM B 0 25 E (nf 0 [38, 40, 41, 42, 44, 45, 47, 48, 51, 52, 54, 55, 56, 57, 58, 59, 60, 61, 62, 64, 65, 66, 67, 68])) μ49 H := hH
  refine lv_aload_n hx hb dX12_init_206 rfl (lv_at hl 0 rfl) ?_
  refine lv_sipush (v := 260) hx hb dX12_init_207 (by decide) ?_
  have hq := bd_e h; clear h; obtain ⟨μ51, e52, h⟩ := hq
  refine k_newa (atype := .int) (rest := [.ref (B + 0)]) hE C hH hS (by decide) (show DSM[25]? = _ from rfl) rfl (by decide) (by decide) wd_210 (by decide) (by decide) (by decide) (Nat.le_of_ble_eq_true rfl) (Nat.le_of_ble_eq_true rfl) dX12_init_210 (fun H hH hS => ?_)
  replace hH : Hd (ωk G DSM B 0 26 E (nf 0 [38, 40, 41, 42, 44, 45, 47, 48, 51, 52, 54, 55, 56, 57, 58, 59, 60, 61, 62, 64, 65, 66, 67, 68])) μ51 H := Hd.to e52 hH
  replace hS : FS (ωk G DSM B 0 26 E (nf 0 [38, 40, 41, 42, 44, 45, 47, 48, 51, 52, 54, 55, 56, 57, 58, 59, 60, 61, 62, 64, 65, 66, 67, 68])) s H locs := hS
  replace C : Cx (ωk G DSM B 0 26 E (nf 0 [38, 40, 41, 42, 44, 45, 47, 48, 51, 52, 54, 55, 56, 57, 58, 59, 60, 61, 62, 64, 65, 66, 67, 68])) p s m args c cX12_init 1 RX12 := Cx.ofk hok C
  refine k_putr hin2 (k := 38) (Rem := [40, 41, 42, 44, 45, 47, 48, 51, 52, 54, 55, 56, 57, 58, 59, 60, 61, 62, 64, 65, 66, 67, 68]) (ty := tyX12 38) (rest := []) C hH hS (show DSM[0]? = _ from rfl) (by decide) rfl (show 38 < 69 by decide) rfl wd_1225 rfl rfl rfl (by decide) rfl (by decide) (by decide) dX12_init_212 (fun H locs hH hS => ?_)
  replace hS : FS (ωk G DSM B 0 26 E (nf 0 [40, 41, 42, 44, 45, 47, 48, 51, 52, 54, 55, 56, 57, 58, 59, 60, 61, 62, 64, 65, 66, 67, 68])) s H locs := hS
  replace C : Cx (ωk G DSM B 0 26 E (nf 0 [40, 41, 42, 44, 45, 47, 48, 51, 52, 54, 55, 56, 57, 58, 59, 60, 61, 62, 64, 65, 66, 67, 68])) p s m args c cX12_init 1 RX12 := Cx.ofk hok C
  replace hH : Hd (ωk G DSM B 0 26 E (nf 0 [40, 41, 42, 44, 45, 47, 48, 51, 52, 54, 55, 56, 57, 58, 59, 60, 61, 62, 64, 65, 66, 67, 68])) μ51 H := hH
  refine lv_aload_n hx hb dX12_init_215 rfl (lv_at hl 0 rfl) ?_
  refine lv_sipush (v := 840) hx hb dX12_init_216 (by decide) ?_
  have hq := bd_e h; clear h; obtain ⟨μ53, e54, h⟩ := hq
  refine k_newa (atype := .int) (rest := [.ref (B + 0)]) hE C hH hS (by decide) (show DSM[26]? = _ from rfl) rfl (by decide) (by decide) wd_210 (by decide) (by decide) (by decide) (Nat.le_of_ble_eq_true rfl) (Nat.le_of_ble_eq_true rfl) dX12_init_219 (fun H hH hS => ?_)
  replace hH : Hd (ωk G DSM B 0 27 E (nf 0 [40, 41, 42, 44, 45, 47, 48, 51, 52, 54, 55, 56, 57, 58, 59, 60, 61, 62, 64, 65, 66, 67, 68])) μ53 H := Hd.to e54 hH
  replace hS : FS (ωk G DSM B 0 27 E (nf 0 [40, 41, 42, 44, 45, 47, 48, 51, 52, 54, 55, 56, 57, 58, 59, 60, 61, 62, 64, 65, 66, 67, 68])) s H locs := hS
  replace C : Cx (ωk G DSM B 0 27 E (nf 0 [40, 41, 42, 44, 45, 47, 48, 51, 52, 54, 55, 56, 57, 58, 59, 60, 61, 62, 64, 65, 66, 67, 68])) p s m args c cX12_init 1 RX12 := Cx.ofk hok C
  refine k_putr hin2 (k := 40) (Rem := [41, 42, 44, 45, 47, 48, 51, 52, 54, 55, 56, 57, 58, 59, 60, 61, 62, 64, 65, 66, 67, 68]) (ty := tyX12 40) (rest := []) C hH hS (show DSM[0]? = _ from rfl) (by decide) rfl (show 40 < 69 by decide) rfl wd_1227 rfl rfl rfl (by decide) rfl (by decide) (by decide) dX12_init_221 (fun H locs hH hS => ?_)
  replace hS : FS (ωk G DSM B 0 27 E (nf 0 [41, 42, 44, 45, 47, 48, 51, 52, 54, 55, 56, 57, 58, 59, 60, 61, 62, 64, 65, 66, 67, 68])) s H locs := hS
  replace C : Cx (ωk G DSM B 0 27 E (nf 0 [41, 42, 44, 45, 47, 48, 51, 52, 54, 55, 56, 57, 58, 59, 60, 61, 62, 64, 65, 66, 67, 68])) p s m args c cX12_init 1 RX12 := Cx.ofk hok C
  replace hH : Hd (ωk G DSM B 0 27 E (nf 0 [41, 42, 44, 45, 47, 48, 51, 52, 54, 55, 56, 57, 58, 59, 60, 61, 62, 64, 65, 66, 67, 68])) μ53 H := hH
  refine lv_aload_n hx hb dX12_init_224 rfl (lv_at hl 0 rfl) ?_
  refine lv_sipush (v := 840) hx hb dX12_init_225 (by decide) ?_
  have hq := bd_e h; clear h; obtain ⟨μ55, e56, h⟩ := hq
  refine k_newa (atype := .int) (rest := [.ref (B + 0)]) hE C hH hS (by decide) (show DSM[27]? = _ from rfl) rfl (by decide) (by decide) wd_210 (by decide) (by decide) (by decide) (Nat.le_of_ble_eq_true rfl) (Nat.le_of_ble_eq_true rfl) dX12_init_228 (fun H hH hS => ?_)
  replace hH : Hd (ωk G DSM B 0 28 E (nf 0 [41, 42, 44, 45, 47, 48, 51, 52, 54, 55, 56, 57, 58, 59, 60, 61, 62, 64, 65, 66, 67, 68])) μ55 H := Hd.to e56 hH
  replace hS : FS (ωk G DSM B 0 28 E (nf 0 [41, 42, 44, 45, 47, 48, 51, 52, 54, 55, 56, 57, 58, 59, 60, 61, 62, 64, 65, 66, 67, 68])) s H locs := hS
  replace C : Cx (ωk G DSM B 0 28 E (nf 0 [41, 42, 44, 45, 47, 48, 51, 52, 54, 55, 56, 57, 58, 59, 60, 61, 62, 64, 65, 66, 67, 68])) p s m args c cX12_init 1 RX12 := Cx.ofk hok C
  refine k_putr hin2 (k := 41) (Rem := [42, 44, 45, 47, 48, 51, 52, 54, 55, 56, 57, 58, 59, 60, 61, 62, 64, 65, 66, 67, 68]) (ty := tyX12 41) (rest := []) C hH hS (show DSM[0]? = _ from rfl) (by decide) rfl (show 41 < 69 by decide) rfl wd_1228 rfl rfl rfl (by decide) rfl (by decide) (by decide) dX12_init_230 (fun H locs hH hS => ?_)
  replace hS : FS (ωk G DSM B 0 28 E (nf 0 [42, 44, 45, 47, 48, 51, 52, 54, 55, 56, 57, 58, 59, 60, 61, 62, 64, 65, 66, 67, 68])) s H locs := hS
  replace C : Cx (ωk G DSM B 0 28 E (nf 0 [42, 44, 45, 47, 48, 51, 52, 54, 55, 56, 57, 58, 59, 60, 61, 62, 64, 65, 66, 67, 68])) p s m args c cX12_init 1 RX12 := Cx.ofk hok C
  replace hH : Hd (ωk G DSM B 0 28 E (nf 0 [42, 44, 45, 47, 48, 51, 52, 54, 55, 56, 57, 58, 59, 60, 61, 62, 64, 65, 66, 67, 68])) μ55 H := hH
  refine lv_aload_n hx hb dX12_init_233 rfl (lv_at hl 0 rfl) ?_
  refine lv_bipush (v := 64) hx hb dX12_init_234 (by decide) ?_
  have hq := bd_e h; clear h; obtain ⟨μ57, e58, h⟩ := hq
  refine k_newa (atype := .int) (rest := [.ref (B + 0)]) hE C hH hS (by decide) (show DSM[28]? = _ from rfl) rfl (by decide) (by decide) wd_210 (by decide) (by decide) (by decide) (Nat.le_of_ble_eq_true rfl) (Nat.le_of_ble_eq_true rfl) dX12_init_236 (fun H hH hS => ?_)
  replace hH : Hd (ωk G DSM B 0 29 E (nf 0 [42, 44, 45, 47, 48, 51, 52, 54, 55, 56, 57, 58, 59, 60, 61, 62, 64, 65, 66, 67, 68])) μ57 H := Hd.to e58 hH
  replace hS : FS (ωk G DSM B 0 29 E (nf 0 [42, 44, 45, 47, 48, 51, 52, 54, 55, 56, 57, 58, 59, 60, 61, 62, 64, 65, 66, 67, 68])) s H locs := hS
  replace C : Cx (ωk G DSM B 0 29 E (nf 0 [42, 44, 45, 47, 48, 51, 52, 54, 55, 56, 57, 58, 59, 60, 61, 62, 64, 65, 66, 67, 68])) p s m args c cX12_init 1 RX12 := Cx.ofk hok C
  refine k_putr hin2 (k := 42) (Rem := [44, 45, 47, 48, 51, 52, 54, 55, 56, 57, 58, 59, 60, 61, 62, 64, 65, 66, 67, 68]) (ty := tyX12 42) (rest := []) C hH hS (show DSM[0]? = _ from rfl) (by decide) rfl (show 42 < 69 by decide) rfl wd_1229 rfl rfl rfl (by decide) rfl (by decide) (by decide) dX12_init_238 (fun H locs hH hS => ?_)
  replace hS : FS (ωk G DSM B 0 29 E (nf 0 [44, 45, 47, 48, 51, 52, 54, 55, 56, 57, 58, 59, 60, 61, 62, 64, 65, 66, 67, 68])) s H locs := hS
  replace C : Cx (ωk G DSM B 0 29 E (nf 0 [44, 45, 47, 48, 51, 52, 54, 55, 56, 57, 58, 59, 60, 61, 62, 64, 65, 66, 67, 68])) p s m args c cX12_init 1 RX12 := Cx.ofk hok C
  replace hH : Hd (ωk G DSM B 0 29 E (nf 0 [44, 45, 47, 48, 51, 52, 54, 55, 56, 57, 58, 59, 60, 61, 62, 64, 65, 66, 67, 68])) μ57 H := hH
  refine lv_aload_n hx hb dX12_init_241 rfl (lv_at hl 0 rfl) ?_
  refine lv_bipush (v := 9) hx hb dX12_init_242 (by decide) ?_
  have hq := bd_e h; clear h; obtain ⟨μ59, e60, h⟩ := hq
  refine k_newa (atype := .int) (rest := [.ref (B + 0)]) hE C hH hS (by decide) (show DSM[29]? = _ from rfl) rfl (by decide) (by decide) wd_210 (by decide) (by decide) (by decide) (Nat.le_of_ble_eq_true rfl) (Nat.le_of_ble_eq_true rfl) dX12_init_244 (fun H hH hS => ?_)
  replace hH : Hd (ωk G DSM B 0 30 E (nf 0 [44, 45, 47, 48, 51, 52, 54, 55, 56, 57, 58, 59, 60, 61, 62, 64, 65, 66, 67, 68])) μ59 H := Hd.to e60 hH
  replace hS : FS (ωk G DSM B 0 30 E (nf 0 [44, 45, 47, 48, 51, 52, 54, 55, 56, 57, 58, 59, 60, 61, 62, 64, 65, 66, 67, 68])) s H locs := hS
  replace C : Cx (ωk G DSM B 0 30 E (nf 0 [44, 45, 47, 48, 51, 52, 54, 55, 56, 57, 58, 59, 60, 61, 62, 64, 65, 66, 67, 68])) p s m args c cX12_init 1 RX12 := Cx.ofk hok C
  refine k_putr hin2 (k := 44) (Rem := [45, 47, 48, 51, 52, 54, 55, 56, 57, 58, 59, 60, 61, 62, 64, 65, 66, 67, 68]) (ty := tyX12 44) (rest := []) C hH hS (show DSM[0]? = _ from rfl) (by decide) rfl (show 44 < 69 by decide) rfl wd_1231 rfl rfl rfl (by decide) rfl (by decide) (by decide) dX12_init_246 (fun H locs hH hS => ?_)
  replace hS : FS (ωk G DSM B 0 30 E (nf 0 [45, 47, 48, 51, 52, 54, 55, 56, 57, 58, 59, 60, 61, 62, 64, 65, 66, 67, 68])) s H locs := hS
  replace C : Cx (ωk G DSM B 0 30 E (nf 0 [45, 47, 48, 51, 52, 54, 55, 56, 57, 58, 59, 60, 61, 62, 64, 65, 66, 67, 68])) p s m args c cX12_init 1 RX12 := Cx.ofk hok C
  replace hH : Hd (ωk G DSM B 0 30 E (nf 0 [45, 47, 48, 51, 52, 54, 55, 56, 57, 58, 59, 60, 61, 62, 64, 65, 66, 67, 68])) μ59 H := hH
  refine lv_aload_n hx hb dX12_init_249 rfl (lv_at hl 0 rfl) ?_
  refine lv_sipush (v := 400) hx hb dX12_init_250 (by decide) ?_
  have hq := bd_e h; clear h; obtain ⟨μ61, e62, h⟩ := hq
  refine k_newa (atype := .int) (rest := [.ref (B + 0)]) hE C hH hS (by decide) (show DSM[30]? = _ from rfl) rfl (by decide) (by decide) wd_210 (by decide) (by decide) (by decide) (Nat.le_of_ble_eq_true rfl) (Nat.le_of_ble_eq_true rfl) dX12_init_253 (fun H hH hS => ?_)
  replace hH : Hd (ωk G DSM B 0 31 E (nf 0 [45, 47, 48, 51, 52, 54, 55, 56, 57, 58, 59, 60, 61, 62, 64, 65, 66, 67, 68])) μ61 H := Hd.to e62 hH
  replace hS : FS (ωk G DSM B 0 31 E (nf 0 [45, 47, 48, 51, 52, 54, 55, 56, 57, 58, 59, 60, 61, 62, 64, 65, 66, 67, 68])) s H locs := hS
  replace C : Cx (ωk G DSM B 0 31 E (nf 0 [45, 47, 48, 51, 52, 54, 55, 56, 57, 58, 59, 60, 61, 62, 64, 65, 66, 67, 68])) p s m args c cX12_init 1 RX12 := Cx.ofk hok C
  refine k_putr hin2 (k := 45) (Rem := [47, 48, 51, 52, 54, 55, 56, 57, 58, 59, 60, 61, 62, 64, 65, 66, 67, 68]) (ty := tyX12 45) (rest := []) C hH hS (show DSM[0]? = _ from rfl) (by decide) rfl (show 45 < 69 by decide) rfl wd_1232 rfl rfl rfl (by decide) rfl (by decide) (by decide) dX12_init_255 (fun H locs hH hS => ?_)
  replace hS : FS (ωk G DSM B 0 31 E (nf 0 [47, 48, 51, 52, 54, 55, 56, 57, 58, 59, 60, 61, 62, 64, 65, 66, 67, 68])) s H locs := hS
  replace C : Cx (ωk G DSM B 0 31 E (nf 0 [47, 48, 51, 52, 54, 55, 56, 57, 58, 59, 60, 61, 62, 64, 65, 66, 67, 68])) p s m args c cX12_init 1 RX12 := Cx.ofk hok C
  replace hH : Hd (ωk G DSM B 0 31 E (nf 0 [47, 48, 51, 52, 54, 55, 56, 57, 58, 59, 60, 61, 62, 64, 65, 66, 67, 68])) μ61 H := hH
  refine lv_aload_n hx hb dX12_init_258 rfl (lv_at hl 0 rfl) ?_
  refine lv_bipush (v := 39) hx hb dX12_init_259 (by decide) ?_
  have hq := bd_e h; clear h; obtain ⟨μ63, e64, h⟩ := hq
  refine k_newa (atype := .int) (rest := [.ref (B + 0)]) hE C hH hS (by decide) (show DSM[31]? = _ from rfl) rfl (by decide) (by decide) wd_210 (by decide) (by decide) (by decide) (Nat.le_of_ble_eq_true rfl) (Nat.le_of_ble_eq_true rfl) dX12_init_261 (fun H hH hS => ?_)
  replace hH : Hd (ωk G DSM B 0 32 E (nf 0 [47, 48, 51, 52, 54, 55, 56, 57, 58, 59, 60, 61, 62, 64, 65, 66, 67, 68])) μ63 H := Hd.to e64 hH
  replace hS : FS (ωk G DSM B 0 32 E (nf 0 [47, 48, 51, 52, 54, 55, 56, 57, 58, 59, 60, 61, 62, 64, 65, 66, 67, 68])) s H locs := hS
  replace C : Cx (ωk G DSM B 0 32 E (nf 0 [47, 48, 51, 52, 54, 55, 56, 57, 58, 59, 60, 61, 62, 64, 65, 66, 67, 68])) p s m args c cX12_init 1 RX12 := Cx.ofk hok C
  refine k_putr hin2 (k := 47) (Rem := [48, 51, 52, 54, 55, 56, 57, 58, 59, 60, 61, 62, 64, 65, 66, 67, 68]) (ty := tyX12 47) (rest := []) C hH hS (show DSM[0]? = _ from rfl) (by decide) rfl (show 47 < 69 by decide) rfl wd_1234 rfl rfl rfl (by decide) rfl (by decide) (by decide) dX12_init_263 (fun H locs hH hS => ?_)
  replace hS : FS (ωk G DSM B 0 32 E (nf 0 [48, 51, 52, 54, 55, 56, 57, 58, 59, 60, 61, 62, 64, 65, 66, 67, 68])) s H locs := hS
  replace C : Cx (ωk G DSM B 0 32 E (nf 0 [48, 51, 52, 54, 55, 56, 57, 58, 59, 60, 61, 62, 64, 65, 66, 67, 68])) p s m args c cX12_init 1 RX12 := Cx.ofk hok C
  replace hH : Hd (ωk G DSM B 0 32 E (nf 0 [48, 51, 52, 54, 55, 56, 57, 58, 59, 60, 61, 62, 64, 65, 66, 67, 68])) μ63 H := hH
  refine lv_aload_n hx hb dX12_init_266 rfl (lv_at hl 0 rfl) ?_
  refine lv_bipush (v := 39) hx hb dX12_init_267 (by decide) ?_
  have hq := bd_e h; clear h; obtain ⟨μ65, e66, h⟩ := hq
  refine k_newa (atype := .int) (rest := [.ref (B + 0)]) hE C hH hS (by decide) (show DSM[32]? = _ from rfl) rfl (by decide) (by decide) wd_210 (by decide) (by decide) (by decide) (Nat.le_of_ble_eq_true rfl) (Nat.le_of_ble_eq_true rfl) dX12_init_269 (fun H hH hS => ?_)
  replace hH : Hd (ωk G DSM B 0 33 E (nf 0 [48, 51, 52, 54, 55, 56, 57, 58, 59, 60, 61, 62, 64, 65, 66, 67, 68])) μ65 H := Hd.to e66 hH
  replace hS : FS (ωk G DSM B 0 33 E (nf 0 [48, 51, 52, 54, 55, 56, 57, 58, 59, 60, 61, 62, 64, 65, 66, 67, 68])) s H locs := hS
  replace C : Cx (ωk G DSM B 0 33 E (nf 0 [48, 51, 52, 54, 55, 56, 57, 58, 59, 60, 61, 62, 64, 65, 66, 67, 68])) p s m args c cX12_init 1 RX12 := Cx.ofk hok C
  refine k_putr hin2 (k := 48) (Rem := [51, 52, 54, 55, 56, 57, 58, 59, 60, 61, 62, 64, 65, 66, 67, 68]) (ty := tyX12 48) (rest := []) C hH hS (show DSM[0]? = _ from rfl) (by decide) rfl (show 48 < 69 by decide) rfl wd_1235 rfl rfl rfl (by decide) rfl (by decide) (by decide) dX12_init_271 (fun H locs hH hS => ?_)
  replace hS : FS (ωk G DSM B 0 33 E (nf 0 [51, 52, 54, 55, 56, 57, 58, 59, 60, 61, 62, 64, 65, 66, 67, 68])) s H locs := hS
  replace C : Cx (ωk G DSM B 0 33 E (nf 0 [51, 52, 54, 55, 56, 57, 58, 59, 60, 61, 62, 64, 65, 66, 67, 68])) p s m args c cX12_init 1 RX12 := Cx.ofk hok C
  replace hH : Hd (ωk G DSM B 0 33 E (nf 0 [51, 52, 54, 55, 56, 57, 58, 59, 60, 61, 62, 64, 65, 66, 67, 68])) μ65 H := hH
  refine lv_aload_n hx hb dX12_init_274 rfl (lv_at hl 0 rfl) ?_
  refine lv_bipush (v := 6) hx hb dX12_init_275 (by decide) ?_
  have hq := bd_e h; clear h; obtain ⟨μ67, e68, h⟩ := hq
  refine k_newa (atype := .int) (rest := [.ref (B + 0)]) hE C hH hS (by decide) (show DSM[33]? = _ from rfl) rfl (by decide) (by decide) wd_210 (by decide) (by decide) (by decide) (Nat.le_of_ble_eq_true rfl) (Nat.le_of_ble_eq_true rfl) dX12_init_277 (fun H hH hS => ?_)
  replace hH : Hd (ωk G DSM B 0 34 E (nf 0 [51, 52, 54, 55, 56, 57, 58, 59, 60, 61, 62, 64, 65, 66, 67, 68])) μ67 H := Hd.to e68 hH
  replace hS : FS (ωk G DSM B 0 34 E (nf 0 [51, 52, 54, 55, 56, 57, 58, 59, 60, 61, 62, 64, 65, 66, 67, 68])) s H locs := hS
  replace C : Cx (ωk G DSM B 0 34 E (nf 0 [51, 52, 54, 55, 56, 57, 58, 59, 60, 61, 62, 64, 65, 66, 67, 68])) p s m args c cX12_init 1 RX12 := Cx.ofk hok C
  refine k_putr hin2 (k := 51) (Rem := [52, 54, 55, 56, 57, 58, 59, 60, 61, 62, 64, 65, 66, 67, 68]) (ty := tyX12 51) (rest := []) C hH hS (show DSM[0]? = _ from rfl) (by decide) rfl (show 51 < 69 by decide) rfl wd_1238 rfl rfl rfl (by decide) rfl (by decide) (by decide) dX12_init_279 (fun H locs hH hS => ?_)
  replace hS : FS (ωk G DSM B 0 34 E (nf 0 [52, 54, 55, 56, 57, 58, 59, 60, 61, 62, 64, 65, 66, 67, 68])) s H locs := hS
  replace C : Cx (ωk G DSM B 0 34 E (nf 0 [52, 54, 55, 56, 57, 58, 59, 60, 61, 62, 64, 65, 66, 67, 68])) p s m args c cX12_init 1 RX12 := Cx.ofk hok C
  replace hH : Hd (ωk G DSM B 0 34 E (nf 0 [52, 54, 55, 56, 57, 58, 59, 60, 61, 62, 64, 65, 66, 67, 68])) μ67 H := hH
  refine lv_aload_n hx hb dX12_init_282 rfl (lv_at hl 0 rfl) ?_
  refine lv_bipush (v := 6) hx hb dX12_init_283 (by decide) ?_
  have hq := bd_e h; clear h; obtain ⟨μ69, e70, h⟩ := hq
  refine k_newa (atype := .int) (rest := [.ref (B + 0)]) hE C hH hS (by decide) (show DSM[34]? = _ from rfl) rfl (by decide) (by decide) wd_210 (by decide) (by decide) (by decide) (Nat.le_of_ble_eq_true rfl) (Nat.le_of_ble_eq_true rfl) dX12_init_285 (fun H hH hS => ?_)
  replace hH : Hd (ωk G DSM B 0 35 E (nf 0 [52, 54, 55, 56, 57, 58, 59, 60, 61, 62, 64, 65, 66, 67, 68])) μ69 H := Hd.to e70 hH
  replace hS : FS (ωk G DSM B 0 35 E (nf 0 [52, 54, 55, 56, 57, 58, 59, 60, 61, 62, 64, 65, 66, 67, 68])) s H locs := hS
  replace C : Cx (ωk G DSM B 0 35 E (nf 0 [52, 54, 55, 56, 57, 58, 59, 60, 61, 62, 64, 65, 66, 67, 68])) p s m args c cX12_init 1 RX12 := Cx.ofk hok C
  refine k_putr hin2 (k := 52) (Rem := [54, 55, 56, 57, 58, 59, 60, 61, 62, 64, 65, 66, 67, 68]) (ty := tyX12 52) (rest := []) C hH hS (show DSM[0]? = _ from rfl) (by decide) rfl (show 52 < 69 by decide) rfl wd_1239 rfl rfl rfl (by decide) rfl (by decide) (by decide) dX12_init_287 (fun H locs hH hS => ?_)
  replace hS : FS (ωk G DSM B 0 35 E (nf 0 [54, 55, 56, 57, 58, 59, 60, 61, 62, 64, 65, 66, 67, 68])) s H locs := hS
  replace C : Cx (ωk G DSM B 0 35 E (nf 0 [54, 55, 56, 57, 58, 59, 60, 61, 62, 64, 65, 66, 67, 68])) p s m args c cX12_init 1 RX12 := Cx.ofk hok C
  replace hH : Hd (ωk G DSM B 0 35 E (nf 0 [54, 55, 56, 57, 58, 59, 60, 61, 62, 64, 65, 66, 67, 68])) μ69 H := hH
  refine lv_aload_n hx hb dX12_init_290 rfl (lv_at hl 0 rfl) ?_
  refine lv_sipush (v := 1560) hx hb dX12_init_291 (by decide) ?_
  have hq := bd_e h; clear h; obtain ⟨μ71, e72, h⟩ := hq
  refine k_newa (atype := .int) (rest := [.ref (B + 0)]) hE C hH hS (by decide) (show DSM[35]? = _ from rfl) rfl (by decide) (by decide) wd_210 (by decide) (by decide) (by decide) (Nat.le_of_ble_eq_true rfl) (Nat.le_of_ble_eq_true rfl) dX12_init_294 (fun H hH hS => ?_)
  replace hH : Hd (ωk G DSM B 0 36 E (nf 0 [54, 55, 56, 57, 58, 59, 60, 61, 62, 64, 65, 66, 67, 68])) μ71 H := Hd.to e72 hH
  replace hS : FS (ωk G DSM B 0 36 E (nf 0 [54, 55, 56, 57, 58, 59, 60, 61, 62, 64, 65, 66, 67, 68])) s H locs := hS
  replace C : Cx (ωk G DSM B 0 36 E (nf 0 [54, 55, 56, 57, 58, 59, 60, 61, 62, 64, 65, 66, 67, 68])) p s m args c cX12_init 1 RX12 := Cx.ofk hok C
  refine k_putr hin2 (k := 54) (Rem := [55, 56, 57, 58, 59, 60, 61, 62, 64, 65, 66, 67, 68]) (ty := tyX12 54) (rest := []) C hH hS (show DSM[0]? = _ from rfl) (by decide) rfl (show 54 < 69 by decide) rfl wd_1241 rfl rfl rfl (by decide) rfl (by decide) (by decide) dX12_init_296 (fun H locs hH hS => ?_)
  replace hS : FS (ωk G DSM B 0 36 E (nf 0 [55, 56, 57, 58, 59, 60, 61, 62, 64, 65, 66, 67, 68])) s H locs := hS
  replace C : Cx (ωk G DSM B 0 36 E (nf 0 [55, 56, 57, 58, 59, 60, 61, 62, 64, 65, 66, 67, 68])) p s m args c cX12_init 1 RX12 := Cx.ofk hok C
  replace hH : Hd (ωk G DSM B 0 36 E (nf 0 [55, 56, 57, 58, 59, 60, 61, 62, 64, 65, 66, 67, 68])) μ71 H := hH
  refine lv_aload_n hx hb dX12_init_299 rfl (lv_at hl 0 rfl) ?_
  refine lv_sipush (v := 186) hx hb dX12_init_300 (by decide) ?_
  have hq := bd_e h; clear h; obtain ⟨μ73, e74, h⟩ := hq
  refine k_newa (atype := .int) (rest := [.ref (B + 0)]) hE C hH hS (by decide) (show DSM[36]? = _ from rfl) rfl (by decide) (by decide) wd_210 (by decide) (by decide) (by decide) (Nat.le_of_ble_eq_true rfl) (Nat.le_of_ble_eq_true rfl) dX12_init_303 (fun H hH hS => ?_)
  replace hH : Hd (ωk G DSM B 0 37 E (nf 0 [55, 56, 57, 58, 59, 60, 61, 62, 64, 65, 66, 67, 68])) μ73 H := Hd.to e74 hH
  replace hS : FS (ωk G DSM B 0 37 E (nf 0 [55, 56, 57, 58, 59, 60, 61, 62, 64, 65, 66, 67, 68])) s H locs := hS
  replace C : Cx (ωk G DSM B 0 37 E (nf 0 [55, 56, 57, 58, 59, 60, 61, 62, 64, 65, 66, 67, 68])) p s m args c cX12_init 1 RX12 := Cx.ofk hok C
  refine k_putr hin2 (k := 55) (Rem := [56, 57, 58, 59, 60, 61, 62, 64, 65, 66, 67, 68]) (ty := tyX12 55) (rest := []) C hH hS (show DSM[0]? = _ from rfl) (by decide) rfl (show 55 < 69 by decide) rfl wd_1242 rfl rfl rfl (by decide) rfl (by decide) (by decide) dX12_init_305 (fun H locs hH hS => ?_)
  replace hS : FS (ωk G DSM B 0 37 E (nf 0 [56, 57, 58, 59, 60, 61, 62, 64, 65, 66, 67, 68])) s H locs := hS
  replace C : Cx (ωk G DSM B 0 37 E (nf 0 [56, 57, 58, 59, 60, 61, 62, 64, 65, 66, 67, 68])) p s m args c cX12_init 1 RX12 := Cx.ofk hok C
  replace hH : Hd (ωk G DSM B 0 37 E (nf 0 [56, 57, 58, 59, 60, 61, 62, 64, 65, 66, 67, 68])) μ73 H := hH
  refine lv_aload_n hx hb dX12_init_308 rfl (lv_at hl 0 rfl) ?_
  refine lv_sipush (v := 217) hx hb dX12_init_309 (by decide) ?_
  have hq := bd_e h; clear h; obtain ⟨μ75, e76, h⟩ := hq
  refine k_newa (atype := .int) (rest := [.ref (B + 0)]) hE C hH hS (by decide) (show DSM[37]? = _ from rfl) rfl (by decide) (by decide) wd_210 (by decide) (by decide) (by decide) (Nat.le_of_ble_eq_true rfl) (Nat.le_of_ble_eq_true rfl) dX12_init_312 (fun H hH hS => ?_)
  replace hH : Hd (ωk G DSM B 0 38 E (nf 0 [56, 57, 58, 59, 60, 61, 62, 64, 65, 66, 67, 68])) μ75 H := Hd.to e76 hH
  replace hS : FS (ωk G DSM B 0 38 E (nf 0 [56, 57, 58, 59, 60, 61, 62, 64, 65, 66, 67, 68])) s H locs := hS
  replace C : Cx (ωk G DSM B 0 38 E (nf 0 [56, 57, 58, 59, 60, 61, 62, 64, 65, 66, 67, 68])) p s m args c cX12_init 1 RX12 := Cx.ofk hok C
  refine k_putr hin2 (k := 56) (Rem := [57, 58, 59, 60, 61, 62, 64, 65, 66, 67, 68]) (ty := tyX12 56) (rest := []) C hH hS (show DSM[0]? = _ from rfl) (by decide) rfl (show 56 < 69 by decide) rfl wd_1243 rfl rfl rfl (by decide) rfl (by decide) (by decide) dX12_init_314 (fun H locs hH hS => ?_)
  replace hS : FS (ωk G DSM B 0 38 E (nf 0 [57, 58, 59, 60, 61, 62, 64, 65, 66, 67, 68])) s H locs := hS
  replace C : Cx (ωk G DSM B 0 38 E (nf 0 [57, 58, 59, 60, 61, 62, 64, 65, 66, 67, 68])) p s m args c cX12_init 1 RX12 := Cx.ofk hok C
  replace hH : Hd (ωk G DSM B 0 38 E (nf 0 [57, 58, 59, 60, 61, 62, 64, 65, 66, 67, 68])) μ75 H := hH
  refine lv_aload_n hx hb dX12_init_317 rfl (lv_at hl 0 rfl) ?_
  refine lv_bipush (v := 39) hx hb dX12_init_318 (by decide) ?_
  have hq := bd_e h; clear h; obtain ⟨μ77, e78, h⟩ := hq
  refine k_newa (atype := .int) (rest := [.ref (B + 0)]) hE C hH hS (by decide) (show DSM[38]? = _ from rfl) rfl (by decide) (by decide) wd_210 (by decide) (by decide) (by decide) (Nat.le_of_ble_eq_true rfl) (Nat.le_of_ble_eq_true rfl) dX12_init_320 (fun H hH hS => ?_)
  replace hH : Hd (ωk G DSM B 0 39 E (nf 0 [57, 58, 59, 60, 61, 62, 64, 65, 66, 67, 68])) μ77 H := Hd.to e78 hH
  replace hS : FS (ωk G DSM B 0 39 E (nf 0 [57, 58, 59, 60, 61, 62, 64, 65, 66, 67, 68])) s H locs := hS
  replace C : Cx (ωk G DSM B 0 39 E (nf 0 [57, 58, 59, 60, 61, 62, 64, 65, 66, 67, 68])) p s m args c cX12_init 1 RX12 := Cx.ofk hok C
  refine k_putr hin2 (k := 57) (Rem := [58, 59, 60, 61, 62, 64, 65, 66, 67, 68]) (ty := tyX12 57) (rest := []) C hH hS (show DSM[0]? = _ from rfl) (by decide) rfl (show 57 < 69 by decide) rfl wd_1244 rfl rfl rfl (by decide) rfl (by decide) (by decide) dX12_init_322 (fun H locs hH hS => ?_)
  replace hS : FS (ωk G DSM B 0 39 E (nf 0 [58, 59, 60, 61, 62, 64, 65, 66, 67, 68])) s H locs := hS
  replace C : Cx (ωk G DSM B 0 39 E (nf 0 [58, 59, 60, 61, 62, 64, 65, 66, 67, 68])) p s m args c cX12_init 1 RX12 := Cx.ofk hok C
  replace hH : Hd (ωk G DSM B 0 39 E (nf 0 [58, 59, 60, 61, 62, 64, 65, 66, 67, 68])) μ77 H := hH
  refine lv_aload_n hx hb dX12_init_325 rfl (lv_at hl 0 rfl) ?_
  refine lv_sipush (v := 384) hx hb dX12_init_326 (by decide) ?_
  have hq := bd_e h; clear h; obtain ⟨μ79, e80, h⟩ := hq
  refine k_newa (atype := .int) (rest := [.ref (B + 0)]) hE C hH hS (by decide) (show DSM[39]? = _ from rfl) rfl (by decide) (by decide) wd_210 (by decide) (by decide) (by decide) (Nat.le_of_ble_eq_true rfl) (Nat.le_of_ble_eq_true rfl) dX12_init_329 (fun H hH hS => ?_)
  replace hH : Hd (ωk G DSM B 0 40 E (nf 0 [58, 59, 60, 61, 62, 64, 65, 66, 67, 68])) μ79 H := Hd.to e80 hH
  replace hS : FS (ωk G DSM B 0 40 E (nf 0 [58, 59, 60, 61, 62, 64, 65, 66, 67, 68])) s H locs := hS
  replace C : Cx (ωk G DSM B 0 40 E (nf 0 [58, 59, 60, 61, 62, 64, 65, 66, 67, 68])) p s m args c cX12_init 1 RX12 := Cx.ofk hok C
  refine k_putr hin2 (k := 58) (Rem := [59, 60, 61, 62, 64, 65, 66, 67, 68]) (ty := tyX12 58) (rest := []) C hH hS (show DSM[0]? = _ from rfl) (by decide) rfl (show 58 < 69 by decide) rfl wd_1245 rfl rfl rfl (by decide) rfl (by decide) (by decide) dX12_init_331 (fun H locs hH hS => ?_)
  replace hS : FS (ωk G DSM B 0 40 E (nf 0 [59, 60, 61, 62, 64, 65, 66, 67, 68])) s H locs := hS
  replace C : Cx (ωk G DSM B 0 40 E (nf 0 [59, 60, 61, 62, 64, 65, 66, 67, 68])) p s m args c cX12_init 1 RX12 := Cx.ofk hok C
  replace hH : Hd (ωk G DSM B 0 40 E (nf 0 [59, 60, 61, 62, 64, 65, 66, 67, 68])) μ79 H := hH
  refine lv_aload_n hx hb dX12_init_334 rfl (lv_at hl 0 rfl) ?_
  refine lv_bipush (v := 6) hx hb dX12_init_335 (by decide) ?_
  have hq := bd_e h; clear h; obtain ⟨μ81, e82, h⟩ := hq
  refine k_newa (atype := .int) (rest := [.ref (B + 0)]) hE C hH hS (by decide) (show DSM[40]? = _ from rfl) rfl (by decide) (by decide) wd_210 (by decide) (by decide) (by decide) (Nat.le_of_ble_eq_true rfl) (Nat.le_of_ble_eq_true rfl) dX12_init_337 (fun H hH hS => ?_)
  replace hH : Hd (ωk G DSM B 0 41 E (nf 0 [59, 60, 61, 62, 64, 65, 66, 67, 68])) μ81 H := Hd.to e82 hH
  replace hS : FS (ωk G DSM B 0 41 E (nf 0 [59, 60, 61, 62, 64, 65, 66, 67, 68])) s H locs := hS
  replace C : Cx (ωk G DSM B 0 41 E (nf 0 [59, 60, 61, 62, 64, 65, 66, 67, 68])) p s m args c cX12_init 1 RX12 := Cx.ofk hok C
  refine k_putr hin2 (k := 59) (Rem := [60, 61, 62, 64, 65, 66, 67, 68]) (ty := tyX12 59) (rest := []) C hH hS (show DSM[0]? = _ from rfl) (by decide) rfl (show 59 < 69 by decide) rfl wd_1246 rfl rfl rfl (by decide) rfl (by decide) (by decide) dX12_init_339 (fun H locs hH hS => ?_)
  replace hS : FS (ωk G DSM B 0 41 E (nf 0 [60, 61, 62, 64, 65, 66, 67, 68])) s H locs := hS
  replace C : Cx (ωk G DSM B 0 41 E (nf 0 [60, 61, 62, 64, 65, 66, 67, 68])) p s m args c cX12_init 1 RX12 := Cx.ofk hok C
  replace hH : Hd (ωk G DSM B 0 41 E (nf 0 [60, 61, 62, 64, 65, 66, 67, 68])) μ81 H := hH
  refine lv_aload_n hx hb dX12_init_342 rfl (lv_at hl 0 rfl) ?_
  refine lv_bipush (v := 6) hx hb dX12_init_343 (by decide) ?_
  have hq := bd_e h; clear h; obtain ⟨μ83, e84, h⟩ := hq
  refine k_newa (atype := .int) (rest := [.ref (B + 0)]) hE C hH hS (by decide) (show DSM[41]? = _ from rfl) rfl (by decide) (by decide) wd_210 (by decide) (by decide) (by decide) (Nat.le_of_ble_eq_true rfl) (Nat.le_of_ble_eq_true rfl) dX12_init_345 (fun H hH hS => ?_)
  replace hH : Hd (ωk G DSM B 0 42 E (nf 0 [60, 61, 62, 64, 65, 66, 67, 68])) μ83 H := Hd.to e84 hH
  replace hS : FS (ωk G DSM B 0 42 E (nf 0 [60, 61, 62, 64, 65, 66, 67, 68])) s H locs := hS
  replace C : Cx (ωk G DSM B 0 42 E (nf 0 [60, 61, 62, 64, 65, 66, 67, 68])) p s m args c cX12_init 1 RX12 := Cx.ofk hok C
  refine k_putr hin2 (k := 60) (Rem := [61, 62, 64, 65, 66, 67, 68]) (ty := tyX12 60) (rest := []) C hH hS (show DSM[0]? = _ from rfl) (by decide) rfl (show 60 < 69 by decide) rfl wd_1247 rfl rfl rfl (by decide) rfl (by decide) (by decide) dX12_init_347 (fun H locs hH hS => ?_)
  replace hS : FS (ωk G DSM B 0 42 E (nf 0 [61, 62, 64, 65, 66, 67, 68])) s H locs := hS
  replace C : Cx (ωk G DSM B 0 42 E (nf 0 [61, 62, 64, 65, 66, 67, 68])) p s m args c cX12_init 1 RX12 := Cx.ofk hok C
  replace hH : Hd (ωk G DSM B 0 42 E (nf 0 [61, 62, 64, 65, 66, 67, 68])) μ83 H := hH
  refine lv_aload_n hx hb dX12_init_350 rfl (lv_at hl 0 rfl) ?_
  refine lv_bipush (v := 6) hx hb dX12_init_351 (by decide) ?_
  have hq := bd_e h; clear h; obtain ⟨μ85, e86, h⟩ := hq
  refine k_newa (atype := .int) (rest := [.ref (B + 0)]) hE C hH hS (by decide) (show DSM[42]? = _ from rfl) rfl (by decide) (by decide) wd_210 (by decide) (by decide) (by decide) (Nat.le_of_ble_eq_true rfl) (Nat.le_of_ble_eq_true rfl) dX12_init_353 (fun H hH hS => ?_)
  replace hH : Hd (ωk G DSM B 0 43 E (nf 0 [61, 62, 64, 65, 66, 67, 68])) μ85 H := Hd.to e86 hH
  replace hS : FS (ωk G DSM B 0 43 E (nf 0 [61, 62, 64, 65, 66, 67, 68])) s H locs := hS
  replace C : Cx (ωk G DSM B 0 43 E (nf 0 [61, 62, 64, 65, 66, 67, 68])) p s m args c cX12_init 1 RX12 := Cx.ofk hok C
  refine k_putr hin2 (k := 61) (Rem := [62, 64, 65, 66, 67, 68]) (ty := tyX12 61) (rest := []) C hH hS (show DSM[0]? = _ from rfl) (by decide) rfl (show 61 < 69 by decide) rfl wd_1248 rfl rfl rfl (by decide) rfl (by decide) (by decide) dX12_init_355 (fun H locs hH hS => ?_)
  replace hS : FS (ωk G DSM B 0 43 E (nf 0 [62, 64, 65, 66, 67, 68])) s H locs := hS
  replace C : Cx (ωk G DSM B 0 43 E (nf 0 [62, 64, 65, 66, 67, 68])) p s m args c cX12_init 1 RX12 := Cx.ofk hok C
  replace hH : Hd (ωk G DSM B 0 43 E (nf 0 [62, 64, 65, 66, 67, 68])) μ85 H := hH
  refine lv_aload_n hx hb dX12_init_358 rfl (lv_at hl 0 rfl) ?_
  refine lv_bipush (v := 64) hx hb dX12_init_359 (by decide) ?_
  have hq := bd_e h; clear h; obtain ⟨μ87, e88, h⟩ := hq
  refine k_newa (atype := .int) (rest := [.ref (B + 0)]) hE C hH hS (by decide) (show DSM[43]? = _ from rfl) rfl (by decide) (by decide) wd_210 (by decide) (by decide) (by decide) (Nat.le_of_ble_eq_true rfl) (Nat.le_of_ble_eq_true rfl) dX12_init_361 (fun H hH hS => ?_)
  replace hH : Hd (ωk G DSM B 0 44 E (nf 0 [62, 64, 65, 66, 67, 68])) μ87 H := Hd.to e88 hH
  replace hS : FS (ωk G DSM B 0 44 E (nf 0 [62, 64, 65, 66, 67, 68])) s H locs := hS
  replace C : Cx (ωk G DSM B 0 44 E (nf 0 [62, 64, 65, 66, 67, 68])) p s m args c cX12_init 1 RX12 := Cx.ofk hok C
  refine k_putr hin2 (k := 62) (Rem := [64, 65, 66, 67, 68]) (ty := tyX12 62) (rest := []) C hH hS (show DSM[0]? = _ from rfl) (by decide) rfl (show 62 < 69 by decide) rfl wd_1249 rfl rfl rfl (by decide) rfl (by decide) (by decide) dX12_init_363 (fun H locs hH hS => ?_)
  replace hS : FS (ωk G DSM B 0 44 E (nf 0 [64, 65, 66, 67, 68])) s H locs := hS
  replace C : Cx (ωk G DSM B 0 44 E (nf 0 [64, 65, 66, 67, 68])) p s m args c cX12_init 1 RX12 := Cx.ofk hok C
  replace hH : Hd (ωk G DSM B 0 44 E (nf 0 [64, 65, 66, 67, 68])) μ87 H := hH
  refine lv_aload_n hx hb dX12_init_366 rfl (lv_at hl 0 rfl) ?_
  refine lv_bipush (v := 20) hx hb dX12_init_367 (by decide) ?_
  have hq := bd_e h; clear h; obtain ⟨μ89, e90, h⟩ := hq
  refine k_newa (atype := .int) (rest := [.ref (B + 0)]) hE C hH hS (by decide) (show DSM[44]? = _ from rfl) rfl (by decide) (by decide) wd_210 (by decide) (by decide) (by decide) (Nat.le_of_ble_eq_true rfl) (Nat.le_of_ble_eq_true rfl) dX12_init_369 (fun H hH hS => ?_)
  replace hH : Hd (ωk G DSM B 0 45 E (nf 0 [64, 65, 66, 67, 68])) μ89 H := Hd.to e90 hH
  replace hS : FS (ωk G DSM B 0 45 E (nf 0 [64, 65, 66, 67, 68])) s H locs := hS
  replace C : Cx (ωk G DSM B 0 45 E (nf 0 [64, 65, 66, 67, 68])) p s m args c cX12_init 1 RX12 := Cx.ofk hok C
  refine k_putr hin2 (k := 64) (Rem := [65, 66, 67, 68]) (ty := tyX12 64) (rest := []) C hH hS (show DSM[0]? = _ from rfl) (by decide) rfl (show 64 < 69 by decide) rfl wd_1251 rfl rfl rfl (by decide) rfl (by decide) (by decide) dX12_init_371 (fun H locs hH hS => ?_)
  replace hS : FS (ωk G DSM B 0 45 E (nf 0 [65, 66, 67, 68])) s H locs := hS
  replace C : Cx (ωk G DSM B 0 45 E (nf 0 [65, 66, 67, 68])) p s m args c cX12_init 1 RX12 := Cx.ofk hok C
  replace hH : Hd (ωk G DSM B 0 45 E (nf 0 [65, 66, 67, 68])) μ89 H := hH
  refine lv_aload_n hx hb dX12_init_374 rfl (lv_at hl 0 rfl) ?_
  refine lv_bipush (v := 20) hx hb dX12_init_375 (by decide) ?_
  have hq := bd_e h; clear h; obtain ⟨μ91, e92, h⟩ := hq
  refine k_newa (atype := .int) (rest := [.ref (B + 0)]) hE C hH hS (by decide) (show DSM[45]? = _ from rfl) rfl (by decide) (by decide) wd_210 (by decide) (by decide) (by decide) (Nat.le_of_ble_eq_true rfl) (Nat.le_of_ble_eq_true rfl) dX12_init_377 (fun H hH hS => ?_)
  replace hH : Hd (ωk G DSM B 0 46 E (nf 0 [65, 66, 67, 68])) μ91 H := Hd.to e92 hH
  replace hS : FS (ωk G DSM B 0 46 E (nf 0 [65, 66, 67, 68])) s H locs := hS
  replace C : Cx (ωk G DSM B 0 46 E (nf 0 [65, 66, 67, 68])) p s m args c cX12_init 1 RX12 := Cx.ofk hok C
  refine k_putr hin2 (k := 65) (Rem := [66, 67, 68]) (ty := tyX12 65) (rest := []) C hH hS (show DSM[0]? = _ from rfl) (by decide) rfl (show 65 < 69 by decide) rfl wd_1252 rfl rfl rfl (by decide) rfl (by decide) (by decide) dX12_init_379 (fun H locs hH hS => ?_)
  replace hS : FS (ωk G DSM B 0 46 E (nf 0 [66, 67, 68])) s H locs := hS
  replace C : Cx (ωk G DSM B 0 46 E (nf 0 [66, 67, 68])) p s m args c cX12_init 1 RX12 := Cx.ofk hok C
  replace hH : Hd (ωk G DSM B 0 46 E (nf 0 [66, 67, 68])) μ91 H := hH
  refine lv_aload_n hx hb dX12_init_382 rfl (lv_at hl 0 rfl) ?_
  refine lv_bipush (v := 20) hx hb dX12_init_383 (by decide) ?_
  have hq := bd_e h; clear h; obtain ⟨μ93, e94, h⟩ := hq
  refine k_newa (atype := .boolean) (rest := [.ref (B + 0)]) hE C hH hS (by decide) (show DSM[46]? = _ from rfl) rfl (by decide) (by decide) wd_374 (by decide) (by decide) (by decide) (Nat.le_of_ble_eq_true rfl) (Nat.le_of_ble_eq_true rfl) dX12_init_385 (fun H hH hS => ?_)
  replace hH : Hd (ωk G DSM B 0 47 E (nf 0 [66, 67, 68])) μ93 H := Hd.to e94 hH
  replace hS : FS (ωk G DSM B 0 47 E (nf 0 [66, 67, 68])) s H locs := hS
  replace C : Cx (ωk G DSM B 0 47 E (nf 0 [66, 67, 68])) p s m args c cX12_init 1 RX12 := Cx.ofk hok C
  refine k_putr hin2 (k := 66) (Rem := [67, 68]) (ty := tyX12 66) (rest := []) C hH hS (show DSM[0]? = _ from rfl) (by decide) rfl (show 66 < 69 by decide) rfl wd_1253 rfl rfl rfl (by decide) rfl (by decide) (by decide) dX12_init_387 (fun H locs hH hS => ?_)
  replace hS : FS (ωk G DSM B 0 47 E (nf 0 [67, 68])) s H locs := hS
  replace C : Cx (ωk G DSM B 0 47 E (nf 0 [67, 68])) p s m args c cX12_init 1 RX12 := Cx.ofk hok C
  replace hH : Hd (ωk G DSM B 0 47 E (nf 0 [67, 68])) μ93 H := hH
  refine lv_aload_n hx hb dX12_init_390 rfl (lv_at hl 0 rfl) ?_
  refine lv_iconst (v := 3) hx hb dX12_init_391 (by decide) ?_
  have hq := bd_e h; clear h; obtain ⟨μ95, e96, h⟩ := hq
  refine k_newa (atype := .boolean) (rest := [.ref (B + 0)]) hE C hH hS (by decide) (show DSM[47]? = _ from rfl) rfl (by decide) (by decide) wd_374 (by decide) (by decide) (by decide) (Nat.le_of_ble_eq_true rfl) (Nat.le_of_ble_eq_true rfl) dX12_init_392 (fun H hH hS => ?_)
  replace hH : Hd (ωk G DSM B 0 48 E (nf 0 [67, 68])) μ95 H := Hd.to e96 hH
  replace hS : FS (ωk G DSM B 0 48 E (nf 0 [67, 68])) s H locs := hS
  replace C : Cx (ωk G DSM B 0 48 E (nf 0 [67, 68])) p s m args c cX12_init 1 RX12 := Cx.ofk hok C
  refine k_putr hin2 (k := 67) (Rem := [68]) (ty := tyX12 67) (rest := []) C hH hS (show DSM[0]? = _ from rfl) (by decide) rfl (show 67 < 69 by decide) rfl wd_1254 rfl rfl rfl (by decide) rfl (by decide) (by decide) dX12_init_394 (fun H locs hH hS => ?_)
  replace hS : FS (ωk G DSM B 0 48 E (nf 0 [68])) s H locs := hS
  replace C : Cx (ωk G DSM B 0 48 E (nf 0 [68])) p s m args c cX12_init 1 RX12 := Cx.ofk hok C
  replace hH : Hd (ωk G DSM B 0 48 E (nf 0 [68])) μ95 H := hH
  refine lv_aload_n hx hb dX12_init_397 rfl (lv_at hl 0 rfl) ?_
  refine lv_bipush (v := 117) hx hb dX12_init_398 (by decide) ?_
  have hq := bd_e h; clear h; obtain ⟨μ97, e98, h⟩ := hq
  refine k_newa (atype := .int) (rest := [.ref (B + 0)]) hE C hH hS (by decide) (show DSM[48]? = _ from rfl) rfl (by decide) (by decide) wd_210 (by decide) (by decide) (by decide) (Nat.le_of_ble_eq_true rfl) (Nat.le_of_ble_eq_true rfl) dX12_init_400 (fun H hH hS => ?_)
  replace hH : Hd (ωk G DSM B 0 49 E (nf 0 [68])) μ97 H := Hd.to e98 hH
  replace hS : FS (ωk G DSM B 0 49 E (nf 0 [68])) s H locs := hS
  replace C : Cx (ωk G DSM B 0 49 E (nf 0 [68])) p s m args c cX12_init 1 RX12 := Cx.ofk hok C
  refine k_putr hin2 (k := 68) (Rem := []) (ty := tyX12 68) (rest := []) C hH hS (show DSM[0]? = _ from rfl) (by decide) rfl (show 68 < 69 by decide) rfl wd_1255 rfl rfl rfl (by decide) rfl (by decide) (by decide) dX12_init_402 (fun H locs hH hS => ?_)
  replace hS : FS (ωk G DSM B 0 49 E (nf 0 [])) s H locs := hS
  replace C : Cx (ωk G DSM B 0 49 E (nf 0 [])) p s m args c cX12_init 1 RX12 := Cx.ofk hok C
  replace hH : Hd (ωk G DSM B 0 49 E (nf 0 [])) μ97 H := hH
  refine lv_aload_n hx hb dX12_init_405 rfl (lv_at hl 0 rfl) ?_
  refine lv_iconst (v := 0) hx hb dX12_init_406 (by decide) ?_
  have hq := b1_e h; clear h; obtain ⟨μ100, e99, h⟩ := hq
  refine cVv (as := [.int 0]) (rest := []) (c_X12_plain hW e99) C hl.1 hH hS rfl (jM_0 hW) rfl wd_29 wd_1167 mw_X12_plain wd_1165 rfl (rmc_ok (by decide) (by decide)) (Nat.le_of_ble_eq_true rfl) ⟨Nat.le_of_ble_eq_true rfl, Nat.le_of_ble_eq_true rfl⟩ (by decide) dX12_init_407 (fun H locs hH hS => ?_)
  refine lv_aload_n hx hb dX12_init_410 rfl (lv_at hl 0 rfl) ?_
  refine lv_iconst (v := 1) hx hb dX12_init_411 (by decide) ?_
  have hq := b1_e h; clear h; obtain ⟨μ102, e101, h⟩ := hq
  refine cVv (as := [.int 1]) (rest := []) (c_X12_plain hW e101) C hl.1 hH hS rfl (jM_0 hW) rfl wd_29 wd_1167 mw_X12_plain wd_1165 rfl (rmc_ok (by decide) (by decide)) (Nat.le_of_ble_eq_true rfl) ⟨Nat.le_of_ble_eq_true rfl, Nat.le_of_ble_eq_true rfl⟩ (by decide) dX12_init_412 (fun H locs hH hS => ?_)
  refine lv_aload_n hx hb dX12_init_415 rfl (lv_at hl 0 rfl) ?_
  refine h_getr (j := 0) (k := 9) (i := 7) C hH ⟨by decide, by decide⟩ (show DSM[0]? = _ from rfl) (by decide) rfl (show 9 < 69 by decide) rfl (by decide) rfl rfl wd_1196 dX12_init_416 ?_
  refine lv_iconst (v := 0) hx hb dX12_init_419 (by decide) ?_
  refine lv_bipush (v := 104) hx hb dX12_init_420 (by decide) ?_
  refine lv_bipush (v := 111) hx hb dX12_init_422 (by decide) ?_
  refine lv_bipush (v := 117) hx hb dX12_init_424 (by decide) ?_
  refine lv_bipush (v := 115) hx hb dX12_init_426 (by decide) ?_
  refine lv_bipush (v := 101) hx hb dX12_init_428 (by decide) ?_
  refine lv_iconst (v := 0) hx hb dX12_init_430 (by decide) ?_
  refine lv_iconst (v := 0) hx hb dX12_init_431 (by decide) ?_
  have hq := b1_e h; clear h; obtain ⟨r104, e103, h⟩ := hq
  refine cSl (as := [.int 104, .int 111, .int 117, .int 115, .int 101, .int 0, .int 0]) (rest := [.int 0, .ref (B + 7)]) (c_X12_word e103) C hl.1 hH hS rfl wd_1170 mw_X12_word wd_1169 rfl (rmc_ok (by decide) (by decide)) (Nat.le_of_ble_eq_true rfl) ⟨Nat.le_of_ble_eq_true rfl, Nat.le_of_ble_eq_true rfl⟩ dX12_init_432 (fun H locs hH hS => ?_)
  have hq := bd_e h; clear h; obtain ⟨μ105, e106, h⟩ := hq
  refine h_last (j := 7) (rest := []) C hH hS ⟨by decide, by decide⟩ (show DSM[7]? = _ from rfl) (by decide) dX12_init_435 (fun H locs hH hS => ?_)
  replace hH : Hd (ωk G DSM B 0 49 E (nf 0 [])) μ105 H := Hd.to e106 hH
  replace hS : FS (ωk G DSM B 0 49 E (nf 0 [])) s H locs := hS
  replace C : Cx (ωk G DSM B 0 49 E (nf 0 [])) p s m args c cX12_init 1 RX12 := Cx.ofk hok C
  refine lv_aload_n hx hb dX12_init_436 rfl (lv_at hl 0 rfl) ?_
  refine h_getr (j := 0) (k := 9) (i := 7) C hH ⟨by decide, by decide⟩ (show DSM[0]? = _ from rfl) (by decide) rfl (show 9 < 69 by decide) rfl (by decide) rfl rfl wd_1196 dX12_init_437 ?_
  refine lv_iconst (v := 1) hx hb dX12_init_440 (by decide) ?_
  refine lv_bipush (v := 99) hx hb dX12_init_441 (by decide) ?_
  refine lv_bipush (v := 111) hx hb dX12_init_443 (by decide) ?_
  refine lv_bipush (v := 111) hx hb dX12_init_445 (by decide) ?_
  refine lv_bipush (v := 108) hx hb dX12_init_447 (by decide) ?_
  refine lv_bipush (v := 115) hx hb dX12_init_449 (by decide) ?_
  refine lv_iconst (v := 0) hx hb dX12_init_451 (by decide) ?_
  refine lv_iconst (v := 0) hx hb dX12_init_452 (by decide) ?_
  have hq := b1_e h; clear h; obtain ⟨r108, e107, h⟩ := hq
  refine cSl (as := [.int 99, .int 111, .int 111, .int 108, .int 115, .int 0, .int 0]) (rest := [.int 1, .ref (B + 7)]) (c_X12_word e107) C hl.1 hH hS rfl wd_1170 mw_X12_word wd_1169 rfl (rmc_ok (by decide) (by decide)) (Nat.le_of_ble_eq_true rfl) ⟨Nat.le_of_ble_eq_true rfl, Nat.le_of_ble_eq_true rfl⟩ dX12_init_453 (fun H locs hH hS => ?_)
  have hq := bd_e h; clear h; obtain ⟨μ109, e110, h⟩ := hq
  refine h_last (j := 7) (rest := []) C hH hS ⟨by decide, by decide⟩ (show DSM[7]? = _ from rfl) (by decide) dX12_init_456 (fun H locs hH hS => ?_)
  replace hH : Hd (ωk G DSM B 0 49 E (nf 0 [])) μ109 H := Hd.to e110 hH
  replace hS : FS (ωk G DSM B 0 49 E (nf 0 [])) s H locs := hS
  replace C : Cx (ωk G DSM B 0 49 E (nf 0 [])) p s m args c cX12_init 1 RX12 := Cx.ofk hok C
  refine lv_aload_n hx hb dX12_init_457 rfl (lv_at hl 0 rfl) ?_
  refine h_getr (j := 0) (k := 9) (i := 7) C hH ⟨by decide, by decide⟩ (show DSM[0]? = _ from rfl) (by decide) rfl (show 9 < 69 by decide) rfl (by decide) rfl rfl wd_1196 dX12_init_458 ?_
  refine lv_iconst (v := 2) hx hb dX12_init_461 (by decide) ?_
  refine lv_bipush (v := 119) hx hb dX12_init_462 (by decide) ?_
  refine lv_bipush (v := 97) hx hb dX12_init_464 (by decide) ?_
  refine lv_bipush (v := 114) hx hb dX12_init_466 (by decide) ?_
  refine lv_bipush (v := 109) hx hb dX12_init_468 (by decide) ?_
  refine lv_bipush (v := 115) hx hb dX12_init_470 (by decide) ?_
  refine lv_iconst (v := 0) hx hb dX12_init_472 (by decide) ?_
  refine lv_iconst (v := 0) hx hb dX12_init_473 (by decide) ?_
  have hq := b1_e h; clear h; obtain ⟨r112, e111, h⟩ := hq
  refine cSl (as := [.int 119, .int 97, .int 114, .int 109, .int 115, .int 0, .int 0]) (rest := [.int 2, .ref (B + 7)]) (c_X12_word e111) C hl.1 hH hS rfl wd_1170 mw_X12_word wd_1169 rfl (rmc_ok (by decide) (by decide)) (Nat.le_of_ble_eq_true rfl) ⟨Nat.le_of_ble_eq_true rfl, Nat.le_of_ble_eq_true rfl⟩ dX12_init_474 (fun H locs hH hS => ?_)
  have hq := bd_e h; clear h; obtain ⟨μ113, e114, h⟩ := hq
  refine h_last (j := 7) (rest := []) C hH hS ⟨by decide, by decide⟩ (show DSM[7]? = _ from rfl) (by decide) dX12_init_477 (fun H locs hH hS => ?_)
  replace hH : Hd (ωk G DSM B 0 49 E (nf 0 [])) μ113 H := Hd.to e114 hH
  replace hS : FS (ωk G DSM B 0 49 E (nf 0 [])) s H locs := hS
  replace C : Cx (ωk G DSM B 0 49 E (nf 0 [])) p s m args c cX12_init 1 RX12 := Cx.ofk hok C
  refine lv_aload_n hx hb dX12_init_478 rfl (lv_at hl 0 rfl) ?_
  refine h_getr (j := 0) (k := 9) (i := 7) C hH ⟨by decide, by decide⟩ (show DSM[0]? = _ from rfl) (by decide) rfl (show 9 < 69 by decide) rfl (by decide) rfl rfl wd_1196 dX12_init_479 ?_
  refine lv_iconst (v := 3) hx hb dX12_init_482 (by decide) ?_
  refine lv_bipush (v := 102) hx hb dX12_init_483 (by decide) ?_
  refine lv_bipush (v := 97) hx hb dX12_init_485 (by decide) ?_
  refine lv_bipush (v := 100) hx hb dX12_init_487 (by decide) ?_
  refine lv_bipush (v := 101) hx hb dX12_init_489 (by decide) ?_
  refine lv_bipush (v := 115) hx hb dX12_init_491 (by decide) ?_
  refine lv_iconst (v := 0) hx hb dX12_init_493 (by decide) ?_
  refine lv_iconst (v := 0) hx hb dX12_init_494 (by decide) ?_
  have hq := b1_e h; clear h; obtain ⟨r116, e115, h⟩ := hq
  refine cSl (as := [.int 102, .int 97, .int 100, .int 101, .int 115, .int 0, .int 0]) (rest := [.int 3, .ref (B + 7)]) (c_X12_word e115) C hl.1 hH hS rfl wd_1170 mw_X12_word wd_1169 rfl (rmc_ok (by decide) (by decide)) (Nat.le_of_ble_eq_true rfl) ⟨Nat.le_of_ble_eq_true rfl, Nat.le_of_ble_eq_true rfl⟩ dX12_init_495 (fun H locs hH hS => ?_)
  have hq := bd_e h; clear h; obtain ⟨μ117, e118, h⟩ := hq
  refine h_last (j := 7) (rest := []) C hH hS ⟨by decide, by decide⟩ (show DSM[7]? = _ from rfl) (by decide) dX12_init_498 (fun H locs hH hS => ?_)
  replace hH : Hd (ωk G DSM B 0 49 E (nf 0 [])) μ117 H := Hd.to e118 hH
  replace hS : FS (ωk G DSM B 0 49 E (nf 0 [])) s H locs := hS
  replace C : Cx (ωk G DSM B 0 49 E (nf 0 [])) p s m args c cX12_init 1 RX12 := Cx.ofk hok C
  refine lv_aload_n hx hb dX12_init_499 rfl (lv_at hl 0 rfl) ?_
  refine h_getr (j := 0) (k := 9) (i := 7) C hH ⟨by decide, by decide⟩ (show DSM[0]? = _ from rfl) (by decide) rfl (show 9 < 69 by decide) rfl (by decide) rfl rfl wd_1196 dX12_init_500 ?_
  refine lv_iconst (v := 4) hx hb dX12_init_503 (by decide) ?_
  refine lv_bipush (v := 109) hx hb dX12_init_504 (by decide) ?_
  refine lv_bipush (v := 101) hx hb dX12_init_506 (by decide) ?_
  refine lv_bipush (v := 110) hx hb dX12_init_508 (by decide) ?_
  refine lv_bipush (v := 100) hx hb dX12_init_510 (by decide) ?_
  refine lv_bipush (v := 115) hx hb dX12_init_512 (by decide) ?_
  refine lv_iconst (v := 0) hx hb dX12_init_514 (by decide) ?_
  refine lv_iconst (v := 0) hx hb dX12_init_515 (by decide) ?_
  have hq := b1_e h; clear h; obtain ⟨r120, e119, h⟩ := hq
  refine cSl (as := [.int 109, .int 101, .int 110, .int 100, .int 115, .int 0, .int 0]) (rest := [.int 4, .ref (B + 7)]) (c_X12_word e119) C hl.1 hH hS rfl wd_1170 mw_X12_word wd_1169 rfl (rmc_ok (by decide) (by decide)) (Nat.le_of_ble_eq_true rfl) ⟨Nat.le_of_ble_eq_true rfl, Nat.le_of_ble_eq_true rfl⟩ dX12_init_516 (fun H locs hH hS => ?_)
  have hq := bd_e h; clear h; obtain ⟨μ121, e122, h⟩ := hq
  refine h_last (j := 7) (rest := []) C hH hS ⟨by decide, by decide⟩ (show DSM[7]? = _ from rfl) (by decide) dX12_init_519 (fun H locs hH hS => ?_)
  replace hH : Hd (ωk G DSM B 0 49 E (nf 0 [])) μ121 H := Hd.to e122 hH
  replace hS : FS (ωk G DSM B 0 49 E (nf 0 [])) s H locs := hS
  replace C : Cx (ωk G DSM B 0 49 E (nf 0 [])) p s m args c cX12_init 1 RX12 := Cx.ofk hok C
  refine lv_aload_n hx hb dX12_init_520 rfl (lv_at hl 0 rfl) ?_
  refine h_getr (j := 0) (k := 9) (i := 7) C hH ⟨by decide, by decide⟩ (show DSM[0]? = _ from rfl) (by decide) rfl (show 9 < 69 by decide) rfl (by decide) rfl rfl wd_1196 dX12_init_521 ?_
  refine lv_iconst (v := 5) hx hb dX12_init_524 (by decide) ?_
  refine lv_bipush (v := 99) hx hb dX12_init_525 (by decide) ?_
  refine lv_bipush (v := 111) hx hb dX12_init_527 (by decide) ?_
  refine lv_bipush (v := 97) hx hb dX12_init_529 (by decide) ?_
  refine lv_bipush (v := 108) hx hb dX12_init_531 (by decide) ?_
  refine lv_bipush (v := 115) hx hb dX12_init_533 (by decide) ?_
  refine lv_iconst (v := 0) hx hb dX12_init_535 (by decide) ?_
  refine lv_iconst (v := 0) hx hb dX12_init_536 (by decide) ?_
  have hq := b1_e h; clear h; obtain ⟨r124, e123, h⟩ := hq
  refine cSl (as := [.int 99, .int 111, .int 97, .int 108, .int 115, .int 0, .int 0]) (rest := [.int 5, .ref (B + 7)]) (c_X12_word e123) C hl.1 hH hS rfl wd_1170 mw_X12_word wd_1169 rfl (rmc_ok (by decide) (by decide)) (Nat.le_of_ble_eq_true rfl) ⟨Nat.le_of_ble_eq_true rfl, Nat.le_of_ble_eq_true rfl⟩ dX12_init_537 (fun H locs hH hS => ?_)
  have hq := bd_e h; clear h; obtain ⟨μ125, e126, h⟩ := hq
  refine h_last (j := 7) (rest := []) C hH hS ⟨by decide, by decide⟩ (show DSM[7]? = _ from rfl) (by decide) dX12_init_540 (fun H locs hH hS => ?_)
  replace hH : Hd (ωk G DSM B 0 49 E (nf 0 [])) μ125 H := Hd.to e126 hH
  replace hS : FS (ωk G DSM B 0 49 E (nf 0 [])) s H locs := hS
  replace C : Cx (ωk G DSM B 0 49 E (nf 0 [])) p s m args c cX12_init 1 RX12 := Cx.ofk hok C
  refine lv_aload_n hx hb dX12_init_541 rfl (lv_at hl 0 rfl) ?_
  refine h_getr (j := 0) (k := 9) (i := 7) C hH ⟨by decide, by decide⟩ (show DSM[0]? = _ from rfl) (by decide) rfl (show 9 < 69 by decide) rfl (by decide) rfl rfl wd_1196 dX12_init_542 ?_
  refine lv_bipush (v := 6) hx hb dX12_init_545 (by decide) ?_
  refine lv_bipush (v := 114) hx hb dX12_init_547 (by decide) ?_
  refine lv_bipush (v := 111) hx hb dX12_init_549 (by decide) ?_
  refine lv_bipush (v := 111) hx hb dX12_init_551 (by decide) ?_
  refine lv_bipush (v := 102) hx hb dX12_init_553 (by decide) ?_
  refine lv_iconst (v := 0) hx hb dX12_init_555 (by decide) ?_
  refine lv_iconst (v := 0) hx hb dX12_init_556 (by decide) ?_
  refine lv_iconst (v := 0) hx hb dX12_init_557 (by decide) ?_
  have hq := b1_e h; clear h; obtain ⟨r128, e127, h⟩ := hq
  refine cSl (as := [.int 114, .int 111, .int 111, .int 102, .int 0, .int 0, .int 0]) (rest := [.int 6, .ref (B + 7)]) (c_X12_word e127) C hl.1 hH hS rfl wd_1170 mw_X12_word wd_1169 rfl (rmc_ok (by decide) (by decide)) (Nat.le_of_ble_eq_true rfl) ⟨Nat.le_of_ble_eq_true rfl, Nat.le_of_ble_eq_true rfl⟩ dX12_init_558 (fun H locs hH hS => ?_)
  have hq := bd_e h; clear h; obtain ⟨μ129, e130, h⟩ := hq
  refine h_last (j := 7) (rest := []) C hH hS ⟨by decide, by decide⟩ (show DSM[7]? = _ from rfl) (by decide) dX12_init_561 (fun H locs hH hS => ?_)
  replace hH : Hd (ωk G DSM B 0 49 E (nf 0 [])) μ129 H := Hd.to e130 hH
  replace hS : FS (ωk G DSM B 0 49 E (nf 0 [])) s H locs := hS
  replace C : Cx (ωk G DSM B 0 49 E (nf 0 [])) p s m args c cX12_init 1 RX12 := Cx.ofk hok C
  refine lv_aload_n hx hb dX12_init_562 rfl (lv_at hl 0 rfl) ?_
  refine h_getr (j := 0) (k := 9) (i := 7) C hH ⟨by decide, by decide⟩ (show DSM[0]? = _ from rfl) (by decide) rfl (show 9 < 69 by decide) rfl (by decide) rfl rfl wd_1196 dX12_init_563 ?_
  refine lv_bipush (v := 7) hx hb dX12_init_566 (by decide) ?_
  refine lv_bipush (v := 104) hx hb dX12_init_568 (by decide) ?_
  refine lv_bipush (v := 97) hx hb dX12_init_570 (by decide) ?_
  refine lv_bipush (v := 105) hx hb dX12_init_572 (by decide) ?_
  refine lv_bipush (v := 108) hx hb dX12_init_574 (by decide) ?_
  refine lv_iconst (v := 0) hx hb dX12_init_576 (by decide) ?_
  refine lv_iconst (v := 0) hx hb dX12_init_577 (by decide) ?_
  refine lv_iconst (v := 0) hx hb dX12_init_578 (by decide) ?_
  have hq := b1_e h; clear h; obtain ⟨r132, e131, h⟩ := hq
  refine cSl (as := [.int 104, .int 97, .int 105, .int 108, .int 0, .int 0, .int 0]) (rest := [.int 7, .ref (B + 7)]) (c_X12_word e131) C hl.1 hH hS rfl wd_1170 mw_X12_word wd_1169 rfl (rmc_ok (by decide) (by decide)) (Nat.le_of_ble_eq_true rfl) ⟨Nat.le_of_ble_eq_true rfl, Nat.le_of_ble_eq_true rfl⟩ dX12_init_579 (fun H locs hH hS => ?_)
  have hq := bd_e h; clear h; obtain ⟨μ133, e134, h⟩ := hq
  refine h_last (j := 7) (rest := []) C hH hS ⟨by decide, by decide⟩ (show DSM[7]? = _ from rfl) (by decide) dX12_init_582 (fun H locs hH hS => ?_)
  replace hH : Hd (ωk G DSM B 0 49 E (nf 0 [])) μ133 H := Hd.to e134 hH
  replace hS : FS (ωk G DSM B 0 49 E (nf 0 [])) s H locs := hS
  replace C : Cx (ωk G DSM B 0 49 E (nf 0 [])) p s m args c cX12_init 1 RX12 := Cx.ofk hok C
  refine lv_aload_n hx hb dX12_init_583 rfl (lv_at hl 0 rfl) ?_
  refine h_getr (j := 0) (k := 9) (i := 7) C hH ⟨by decide, by decide⟩ (show DSM[0]? = _ from rfl) (by decide) rfl (show 9 < 69 by decide) rfl (by decide) rfl rfl wd_1196 dX12_init_584 ?_
  refine lv_bipush (v := 8) hx hb dX12_init_587 (by decide) ?_
  refine lv_bipush (v := 115) hx hb dX12_init_589 (by decide) ?_
  refine lv_bipush (v := 101) hx hb dX12_init_591 (by decide) ?_
  refine lv_bipush (v := 101) hx hb dX12_init_593 (by decide) ?_
  refine lv_bipush (v := 100) hx hb dX12_init_595 (by decide) ?_
  refine lv_iconst (v := 0) hx hb dX12_init_597 (by decide) ?_
  refine lv_iconst (v := 0) hx hb dX12_init_598 (by decide) ?_
  refine lv_iconst (v := 0) hx hb dX12_init_599 (by decide) ?_
  have hq := b1_e h; clear h; obtain ⟨r136, e135, h⟩ := hq
  refine cSl (as := [.int 115, .int 101, .int 101, .int 100, .int 0, .int 0, .int 0]) (rest := [.int 8, .ref (B + 7)]) (c_X12_word e135) C hl.1 hH hS rfl wd_1170 mw_X12_word wd_1169 rfl (rmc_ok (by decide) (by decide)) (Nat.le_of_ble_eq_true rfl) ⟨Nat.le_of_ble_eq_true rfl, Nat.le_of_ble_eq_true rfl⟩ dX12_init_600 (fun H locs hH hS => ?_)
  have hq := bd_e h; clear h; obtain ⟨μ137, e138, h⟩ := hq
  refine h_last (j := 7) (rest := []) C hH hS ⟨by decide, by decide⟩ (show DSM[7]? = _ from rfl) (by decide) dX12_init_603 (fun H locs hH hS => ?_)
  replace hH : Hd (ωk G DSM B 0 49 E (nf 0 [])) μ137 H := Hd.to e138 hH
  replace hS : FS (ωk G DSM B 0 49 E (nf 0 [])) s H locs := hS
  replace C : Cx (ωk G DSM B 0 49 E (nf 0 [])) p s m args c cX12_init 1 RX12 := Cx.ofk hok C
  refine lv_aload_n hx hb dX12_init_604 rfl (lv_at hl 0 rfl) ?_
  refine h_getr (j := 0) (k := 9) (i := 7) C hH ⟨by decide, by decide⟩ (show DSM[0]? = _ from rfl) (by decide) rfl (show 9 < 69 by decide) rfl (by decide) rfl rfl wd_1196 dX12_init_605 ?_
  refine lv_bipush (v := 9) hx hb dX12_init_608 (by decide) ?_
  refine lv_bipush (v := 105) hx hb dX12_init_610 (by decide) ?_
  refine lv_bipush (v := 102) hx hb dX12_init_612 (by decide) ?_
  refine lv_iconst (v := 0) hx hb dX12_init_614 (by decide) ?_
  refine lv_iconst (v := 0) hx hb dX12_init_615 (by decide) ?_
  refine lv_iconst (v := 0) hx hb dX12_init_616 (by decide) ?_
  refine lv_iconst (v := 0) hx hb dX12_init_617 (by decide) ?_
  refine lv_iconst (v := 0) hx hb dX12_init_618 (by decide) ?_
  have hq := b1_e h; clear h; obtain ⟨r140, e139, h⟩ := hq
  refine cSl (as := [.int 105, .int 102, .int 0, .int 0, .int 0, .int 0, .int 0]) (rest := [.int 9, .ref (B + 7)]) (c_X12_word e139) C hl.1 hH hS rfl wd_1170 mw_X12_word wd_1169 rfl (rmc_ok (by decide) (by decide)) (Nat.le_of_ble_eq_true rfl) ⟨Nat.le_of_ble_eq_true rfl, Nat.le_of_ble_eq_true rfl⟩ dX12_init_619 (fun H locs hH hS => ?_)
  have hq := bd_e h; clear h; obtain ⟨μ141, e142, h⟩ := hq
  refine h_last (j := 7) (rest := []) C hH hS ⟨by decide, by decide⟩ (show DSM[7]? = _ from rfl) (by decide) dX12_init_622 (fun H locs hH hS => ?_)
  replace hH : Hd (ωk G DSM B 0 49 E (nf 0 [])) μ141 H := Hd.to e142 hH
  replace hS : FS (ωk G DSM B 0 49 E (nf 0 [])) s H locs := hS
  replace C : Cx (ωk G DSM B 0 49 E (nf 0 [])) p s m args c cX12_init 1 RX12 := Cx.ofk hok C
  refine lv_aload_n hx hb dX12_init_623 rfl (lv_at hl 0 rfl) ?_
  refine h_getr (j := 0) (k := 9) (i := 7) C hH ⟨by decide, by decide⟩ (show DSM[0]? = _ from rfl) (by decide) rfl (show 9 < 69 by decide) rfl (by decide) rfl rfl wd_1196 dX12_init_624 ?_
  refine lv_bipush (v := 10) hx hb dX12_init_627 (by decide) ?_
  refine lv_bipush (v := 116) hx hb dX12_init_629 (by decide) ?_
  refine lv_bipush (v := 104) hx hb dX12_init_631 (by decide) ?_
  refine lv_bipush (v := 101) hx hb dX12_init_633 (by decide) ?_
  refine lv_bipush (v := 110) hx hb dX12_init_635 (by decide) ?_
  refine lv_iconst (v := 0) hx hb dX12_init_637 (by decide) ?_
  refine lv_iconst (v := 0) hx hb dX12_init_638 (by decide) ?_
  refine lv_iconst (v := 0) hx hb dX12_init_639 (by decide) ?_
  have hq := b1_e h; clear h; obtain ⟨r144, e143, h⟩ := hq
  refine cSl (as := [.int 116, .int 104, .int 101, .int 110, .int 0, .int 0, .int 0]) (rest := [.int 10, .ref (B + 7)]) (c_X12_word e143) C hl.1 hH hS rfl wd_1170 mw_X12_word wd_1169 rfl (rmc_ok (by decide) (by decide)) (Nat.le_of_ble_eq_true rfl) ⟨Nat.le_of_ble_eq_true rfl, Nat.le_of_ble_eq_true rfl⟩ dX12_init_640 (fun H locs hH hS => ?_)
  have hq := bd_e h; clear h; obtain ⟨μ145, e146, h⟩ := hq
  refine h_last (j := 7) (rest := []) C hH hS ⟨by decide, by decide⟩ (show DSM[7]? = _ from rfl) (by decide) dX12_init_643 (fun H locs hH hS => ?_)
  replace hH : Hd (ωk G DSM B 0 49 E (nf 0 [])) μ145 H := Hd.to e146 hH
  replace hS : FS (ωk G DSM B 0 49 E (nf 0 [])) s H locs := hS
  replace C : Cx (ωk G DSM B 0 49 E (nf 0 [])) p s m args c cX12_init 1 RX12 := Cx.ofk hok C
  refine lv_aload_n hx hb dX12_init_644 rfl (lv_at hl 0 rfl) ?_
  refine h_getr (j := 0) (k := 9) (i := 7) C hH ⟨by decide, by decide⟩ (show DSM[0]? = _ from rfl) (by decide) rfl (show 9 < 69 by decide) rfl (by decide) rfl rfl wd_1196 dX12_init_645 ?_
  refine lv_bipush (v := 11) hx hb dX12_init_648 (by decide) ?_
  refine lv_bipush (v := 101) hx hb dX12_init_650 (by decide) ?_
  refine lv_bipush (v := 108) hx hb dX12_init_652 (by decide) ?_
  refine lv_bipush (v := 115) hx hb dX12_init_654 (by decide) ?_
  refine lv_bipush (v := 101) hx hb dX12_init_656 (by decide) ?_
  refine lv_iconst (v := 0) hx hb dX12_init_658 (by decide) ?_
  refine lv_iconst (v := 0) hx hb dX12_init_659 (by decide) ?_
  refine lv_iconst (v := 0) hx hb dX12_init_660 (by decide) ?_
  have hq := b1_e h; clear h; obtain ⟨r148, e147, h⟩ := hq
  refine cSl (as := [.int 101, .int 108, .int 115, .int 101, .int 0, .int 0, .int 0]) (rest := [.int 11, .ref (B + 7)]) (c_X12_word e147) C hl.1 hH hS rfl wd_1170 mw_X12_word wd_1169 rfl (rmc_ok (by decide) (by decide)) (Nat.le_of_ble_eq_true rfl) ⟨Nat.le_of_ble_eq_true rfl, Nat.le_of_ble_eq_true rfl⟩ dX12_init_661 (fun H locs hH hS => ?_)
  have hq := bd_e h; clear h; obtain ⟨μ149, e150, h⟩ := hq
  refine h_last (j := 7) (rest := []) C hH hS ⟨by decide, by decide⟩ (show DSM[7]? = _ from rfl) (by decide) dX12_init_664 (fun H locs hH hS => ?_)
  replace hH : Hd (ωk G DSM B 0 49 E (nf 0 [])) μ149 H := Hd.to e150 hH
  replace hS : FS (ωk G DSM B 0 49 E (nf 0 [])) s H locs := hS
  replace C : Cx (ωk G DSM B 0 49 E (nf 0 [])) p s m args c cX12_init 1 RX12 := Cx.ofk hok C
  refine lv_aload_n hx hb dX12_init_665 rfl (lv_at hl 0 rfl) ?_
  refine h_getr (j := 0) (k := 9) (i := 7) C hH ⟨by decide, by decide⟩ (show DSM[0]? = _ from rfl) (by decide) rfl (show 9 < 69 by decide) rfl (by decide) rfl rfl wd_1196 dX12_init_666 ?_
  refine lv_bipush (v := 12) hx hb dX12_init_669 (by decide) ?_
  refine lv_bipush (v := 112) hx hb dX12_init_671 (by decide) ?_
  refine lv_bipush (v := 97) hx hb dX12_init_673 (by decide) ?_
  refine lv_bipush (v := 110) hx hb dX12_init_675 (by decide) ?_
  refine lv_bipush (v := 101) hx hb dX12_init_677 (by decide) ?_
  refine lv_bipush (v := 115) hx hb dX12_init_679 (by decide) ?_
  refine lv_iconst (v := 0) hx hb dX12_init_681 (by decide) ?_
  refine lv_iconst (v := 0) hx hb dX12_init_682 (by decide) ?_
  have hq := b1_e h; clear h; obtain ⟨r152, e151, h⟩ := hq
  refine cSl (as := [.int 112, .int 97, .int 110, .int 101, .int 115, .int 0, .int 0]) (rest := [.int 12, .ref (B + 7)]) (c_X12_word e151) C hl.1 hH hS rfl wd_1170 mw_X12_word wd_1169 rfl (rmc_ok (by decide) (by decide)) (Nat.le_of_ble_eq_true rfl) ⟨Nat.le_of_ble_eq_true rfl, Nat.le_of_ble_eq_true rfl⟩ dX12_init_683 (fun H locs hH hS => ?_)
  have hq := bd_e h; clear h; obtain ⟨μ153, e154, h⟩ := hq
  refine h_last (j := 7) (rest := []) C hH hS ⟨by decide, by decide⟩ (show DSM[7]? = _ from rfl) (by decide) dX12_init_686 (fun H locs hH hS => ?_)
  replace hH : Hd (ωk G DSM B 0 49 E (nf 0 [])) μ153 H := Hd.to e154 hH
  replace hS : FS (ωk G DSM B 0 49 E (nf 0 [])) s H locs := hS
  replace C : Cx (ωk G DSM B 0 49 E (nf 0 [])) p s m args c cX12_init 1 RX12 := Cx.ofk hok C
  refine lv_aload_n hx hb dX12_init_687 rfl (lv_at hl 0 rfl) ?_
  refine h_getr (j := 0) (k := 9) (i := 7) C hH ⟨by decide, by decide⟩ (show DSM[0]? = _ from rfl) (by decide) rfl (show 9 < 69 by decide) rfl (by decide) rfl rfl wd_1196 dX12_init_688 ?_
  refine lv_bipush (v := 13) hx hb dX12_init_691 (by decide) ?_
  refine lv_bipush (v := 98) hx hb dX12_init_693 (by decide) ?_
  refine lv_bipush (v := 114) hx hb dX12_init_695 (by decide) ?_
  refine lv_bipush (v := 111) hx hb dX12_init_697 (by decide) ?_
  refine lv_bipush (v := 107) hx hb dX12_init_699 (by decide) ?_
  refine lv_bipush (v := 101) hx hb dX12_init_701 (by decide) ?_
  refine lv_bipush (v := 110) hx hb dX12_init_703 (by decide) ?_
  refine lv_iconst (v := 0) hx hb dX12_init_705 (by decide) ?_
  have hq := b1_e h; clear h; obtain ⟨r156, e155, h⟩ := hq
  refine cSl (as := [.int 98, .int 114, .int 111, .int 107, .int 101, .int 110, .int 0]) (rest := [.int 13, .ref (B + 7)]) (c_X12_word e155) C hl.1 hH hS rfl wd_1170 mw_X12_word wd_1169 rfl (rmc_ok (by decide) (by decide)) (Nat.le_of_ble_eq_true rfl) ⟨Nat.le_of_ble_eq_true rfl, Nat.le_of_ble_eq_true rfl⟩ dX12_init_706 (fun H locs hH hS => ?_)
  have hq := bd_e h; clear h; obtain ⟨μ157, e158, h⟩ := hq
  refine h_last (j := 7) (rest := []) C hH hS ⟨by decide, by decide⟩ (show DSM[7]? = _ from rfl) (by decide) dX12_init_709 (fun H locs hH hS => ?_)
  replace hH : Hd (ωk G DSM B 0 49 E (nf 0 [])) μ157 H := Hd.to e158 hH
  replace hS : FS (ωk G DSM B 0 49 E (nf 0 [])) s H locs := hS
  replace C : Cx (ωk G DSM B 0 49 E (nf 0 [])) p s m args c cX12_init 1 RX12 := Cx.ofk hok C
  refine lv_aload_n hx hb dX12_init_710 rfl (lv_at hl 0 rfl) ?_
  refine h_getr (j := 0) (k := 9) (i := 7) C hH ⟨by decide, by decide⟩ (show DSM[0]? = _ from rfl) (by decide) rfl (show 9 < 69 by decide) rfl (by decide) rfl rfl wd_1196 dX12_init_711 ?_
  refine lv_bipush (v := 14) hx hb dX12_init_714 (by decide) ?_
  refine lv_bipush (v := 104) hx hb dX12_init_716 (by decide) ?_
  refine lv_bipush (v := 101) hx hb dX12_init_718 (by decide) ?_
  refine lv_bipush (v := 97) hx hb dX12_init_720 (by decide) ?_
  refine lv_bipush (v := 116) hx hb dX12_init_722 (by decide) ?_
  refine lv_iconst (v := 0) hx hb dX12_init_724 (by decide) ?_
  refine lv_iconst (v := 0) hx hb dX12_init_725 (by decide) ?_
  refine lv_iconst (v := 0) hx hb dX12_init_726 (by decide) ?_
  have hq := b1_e h; clear h; obtain ⟨r160, e159, h⟩ := hq
  refine cSl (as := [.int 104, .int 101, .int 97, .int 116, .int 0, .int 0, .int 0]) (rest := [.int 14, .ref (B + 7)]) (c_X12_word e159) C hl.1 hH hS rfl wd_1170 mw_X12_word wd_1169 rfl (rmc_ok (by decide) (by decide)) (Nat.le_of_ble_eq_true rfl) ⟨Nat.le_of_ble_eq_true rfl, Nat.le_of_ble_eq_true rfl⟩ dX12_init_727 (fun H locs hH hS => ?_)
  have hq := bd_e h; clear h; obtain ⟨μ161, e162, h⟩ := hq
  refine h_last (j := 7) (rest := []) C hH hS ⟨by decide, by decide⟩ (show DSM[7]? = _ from rfl) (by decide) dX12_init_730 (fun H locs hH hS => ?_)
  replace hH : Hd (ωk G DSM B 0 49 E (nf 0 [])) μ161 H := Hd.to e162 hH
  replace hS : FS (ωk G DSM B 0 49 E (nf 0 [])) s H locs := hS
  replace C : Cx (ωk G DSM B 0 49 E (nf 0 [])) p s m args c cX12_init 1 RX12 := Cx.ofk hok C
  refine lv_aload_n hx hb dX12_init_731 rfl (lv_at hl 0 rfl) ?_
  refine h_getr (j := 0) (k := 9) (i := 7) C hH ⟨by decide, by decide⟩ (show DSM[0]? = _ from rfl) (by decide) rfl (show 9 < 69 by decide) rfl (by decide) rfl rfl wd_1196 dX12_init_732 ?_
  refine lv_bipush (v := 15) hx hb dX12_init_735 (by decide) ?_
  refine lv_bipush (v := 107) hx hb dX12_init_737 (by decide) ?_
  refine lv_bipush (v := 101) hx hb dX12_init_739 (by decide) ?_
  refine lv_bipush (v := 112) hx hb dX12_init_741 (by decide) ?_
  refine lv_bipush (v := 116) hx hb dX12_init_743 (by decide) ?_
  refine lv_iconst (v := 0) hx hb dX12_init_745 (by decide) ?_
  refine lv_iconst (v := 0) hx hb dX12_init_746 (by decide) ?_
  refine lv_iconst (v := 0) hx hb dX12_init_747 (by decide) ?_
  have hq := b1_e h; clear h; obtain ⟨r164, e163, h⟩ := hq
  refine cSl (as := [.int 107, .int 101, .int 112, .int 116, .int 0, .int 0, .int 0]) (rest := [.int 15, .ref (B + 7)]) (c_X12_word e163) C hl.1 hH hS rfl wd_1170 mw_X12_word wd_1169 rfl (rmc_ok (by decide) (by decide)) (Nat.le_of_ble_eq_true rfl) ⟨Nat.le_of_ble_eq_true rfl, Nat.le_of_ble_eq_true rfl⟩ dX12_init_748 (fun H locs hH hS => ?_)
  have hq := bd_e h; clear h; obtain ⟨μ165, e166, h⟩ := hq
  refine h_last (j := 7) (rest := []) C hH hS ⟨by decide, by decide⟩ (show DSM[7]? = _ from rfl) (by decide) dX12_init_751 (fun H locs hH hS => ?_)
  replace hH : Hd (ωk G DSM B 0 49 E (nf 0 [])) μ165 H := Hd.to e166 hH
  replace hS : FS (ωk G DSM B 0 49 E (nf 0 [])) s H locs := hS
  replace C : Cx (ωk G DSM B 0 49 E (nf 0 [])) p s m args c cX12_init 1 RX12 := Cx.ofk hok C
  refine lv_aload_n hx hb dX12_init_752 rfl (lv_at hl 0 rfl) ?_
  refine h_getr (j := 0) (k := 9) (i := 7) C hH ⟨by decide, by decide⟩ (show DSM[0]? = _ from rfl) (by decide) rfl (show 9 < 69 by decide) rfl (by decide) rfl rfl wd_1196 dX12_init_753 ?_
  refine lv_bipush (v := 16) hx hb dX12_init_756 (by decide) ?_
  refine lv_bipush (v := 111) hx hb dX12_init_758 (by decide) ?_
  refine lv_bipush (v := 112) hx hb dX12_init_760 (by decide) ?_
  refine lv_bipush (v := 101) hx hb dX12_init_762 (by decide) ?_
  refine lv_bipush (v := 110) hx hb dX12_init_764 (by decide) ?_
  refine lv_iconst (v := 0) hx hb dX12_init_766 (by decide) ?_
  refine lv_iconst (v := 0) hx hb dX12_init_767 (by decide) ?_
  refine lv_iconst (v := 0) hx hb dX12_init_768 (by decide) ?_
  have hq := b1_e h; clear h; obtain ⟨r168, e167, h⟩ := hq
  refine cSl (as := [.int 111, .int 112, .int 101, .int 110, .int 0, .int 0, .int 0]) (rest := [.int 16, .ref (B + 7)]) (c_X12_word e167) C hl.1 hH hS rfl wd_1170 mw_X12_word wd_1169 rfl (rmc_ok (by decide) (by decide)) (Nat.le_of_ble_eq_true rfl) ⟨Nat.le_of_ble_eq_true rfl, Nat.le_of_ble_eq_true rfl⟩ dX12_init_769 (fun H locs hH hS => ?_)
  have hq := bd_e h; clear h; obtain ⟨μ169, e170, h⟩ := hq
  refine h_last (j := 7) (rest := []) C hH hS ⟨by decide, by decide⟩ (show DSM[7]? = _ from rfl) (by decide) dX12_init_772 (fun H locs hH hS => ?_)
  replace hH : Hd (ωk G DSM B 0 49 E (nf 0 [])) μ169 H := Hd.to e170 hH
  replace hS : FS (ωk G DSM B 0 49 E (nf 0 [])) s H locs := hS
  replace C : Cx (ωk G DSM B 0 49 E (nf 0 [])) p s m args c cX12_init 1 RX12 := Cx.ofk hok C
  refine lv_aload_n hx hb dX12_init_773 rfl (lv_at hl 0 rfl) ?_
  refine h_getr (j := 0) (k := 9) (i := 7) C hH ⟨by decide, by decide⟩ (show DSM[0]? = _ from rfl) (by decide) rfl (show 9 < 69 by decide) rfl (by decide) rfl rfl wd_1196 dX12_init_774 ?_
  refine lv_bipush (v := 17) hx hb dX12_init_777 (by decide) ?_
  refine lv_bipush (v := 100) hx hb dX12_init_779 (by decide) ?_
  refine lv_bipush (v := 97) hx hb dX12_init_781 (by decide) ?_
  refine lv_bipush (v := 121) hx hb dX12_init_783 (by decide) ?_
  refine lv_iconst (v := 0) hx hb dX12_init_785 (by decide) ?_
  refine lv_iconst (v := 0) hx hb dX12_init_786 (by decide) ?_
  refine lv_iconst (v := 0) hx hb dX12_init_787 (by decide) ?_
  refine lv_iconst (v := 0) hx hb dX12_init_788 (by decide) ?_
  have hq := b1_e h; clear h; obtain ⟨r172, e171, h⟩ := hq
  refine cSl (as := [.int 100, .int 97, .int 121, .int 0, .int 0, .int 0, .int 0]) (rest := [.int 17, .ref (B + 7)]) (c_X12_word e171) C hl.1 hH hS rfl wd_1170 mw_X12_word wd_1169 rfl (rmc_ok (by decide) (by decide)) (Nat.le_of_ble_eq_true rfl) ⟨Nat.le_of_ble_eq_true rfl, Nat.le_of_ble_eq_true rfl⟩ dX12_init_789 (fun H locs hH hS => ?_)
  have hq := bd_e h; clear h; obtain ⟨μ173, e174, h⟩ := hq
  refine h_last (j := 7) (rest := []) C hH hS ⟨by decide, by decide⟩ (show DSM[7]? = _ from rfl) (by decide) dX12_init_792 (fun H locs hH hS => ?_)
  replace hH : Hd (ωk G DSM B 0 49 E (nf 0 [])) μ173 H := Hd.to e174 hH
  replace hS : FS (ωk G DSM B 0 49 E (nf 0 [])) s H locs := hS
  replace C : Cx (ωk G DSM B 0 49 E (nf 0 [])) p s m args c cX12_init 1 RX12 := Cx.ofk hok C
  refine lv_aload_n hx hb dX12_init_793 rfl (lv_at hl 0 rfl) ?_
  refine h_getr (j := 0) (k := 9) (i := 7) C hH ⟨by decide, by decide⟩ (show DSM[0]? = _ from rfl) (by decide) rfl (show 9 < 69 by decide) rfl (by decide) rfl rfl wd_1196 dX12_init_794 ?_
  refine lv_bipush (v := 18) hx hb dX12_init_797 (by decide) ?_
  refine lv_bipush (v := 119) hx hb dX12_init_799 (by decide) ?_
  refine lv_bipush (v := 104) hx hb dX12_init_801 (by decide) ?_
  refine lv_bipush (v := 105) hx hb dX12_init_803 (by decide) ?_
  refine lv_bipush (v := 99) hx hb dX12_init_805 (by decide) ?_
  refine lv_bipush (v := 104) hx hb dX12_init_807 (by decide) ?_
  refine lv_iconst (v := 0) hx hb dX12_init_809 (by decide) ?_
  refine lv_iconst (v := 0) hx hb dX12_init_810 (by decide) ?_
  have hq := b1_e h; clear h; obtain ⟨r176, e175, h⟩ := hq
  refine cSl (as := [.int 119, .int 104, .int 105, .int 99, .int 104, .int 0, .int 0]) (rest := [.int 18, .ref (B + 7)]) (c_X12_word e175) C hl.1 hH hS rfl wd_1170 mw_X12_word wd_1169 rfl (rmc_ok (by decide) (by decide)) (Nat.le_of_ble_eq_true rfl) ⟨Nat.le_of_ble_eq_true rfl, Nat.le_of_ble_eq_true rfl⟩ dX12_init_811 (fun H locs hH hS => ?_)
  have hq := bd_e h; clear h; obtain ⟨μ177, e178, h⟩ := hq
  refine h_last (j := 7) (rest := []) C hH hS ⟨by decide, by decide⟩ (show DSM[7]? = _ from rfl) (by decide) dX12_init_814 (fun H locs hH hS => ?_)
  replace hH : Hd (ωk G DSM B 0 49 E (nf 0 [])) μ177 H := Hd.to e178 hH
  replace hS : FS (ωk G DSM B 0 49 E (nf 0 [])) s H locs := hS
  replace C : Cx (ωk G DSM B 0 49 E (nf 0 [])) p s m args c cX12_init 1 RX12 := Cx.ofk hok C
  refine lv_aload_n hx hb dX12_init_815 rfl (lv_at hl 0 rfl) ?_
  refine h_getr (j := 0) (k := 9) (i := 7) C hH ⟨by decide, by decide⟩ (show DSM[0]? = _ from rfl) (by decide) rfl (show 9 < 69 by decide) rfl (by decide) rfl rfl wd_1196 dX12_init_816 ?_
  refine lv_bipush (v := 19) hx hb dX12_init_819 (by decide) ?_
  refine lv_bipush (v := 108) hx hb dX12_init_821 (by decide) ?_
  refine lv_bipush (v := 101) hx hb dX12_init_823 (by decide) ?_
  refine lv_bipush (v := 97) hx hb dX12_init_825 (by decide) ?_
  refine lv_bipush (v := 118) hx hb dX12_init_827 (by decide) ?_
  refine lv_bipush (v := 101) hx hb dX12_init_829 (by decide) ?_
  refine lv_bipush (v := 115) hx hb dX12_init_831 (by decide) ?_
  refine lv_iconst (v := 0) hx hb dX12_init_833 (by decide) ?_
  have hq := b1_e h; clear h; obtain ⟨r180, e179, h⟩ := hq
  refine cSl (as := [.int 108, .int 101, .int 97, .int 118, .int 101, .int 115, .int 0]) (rest := [.int 19, .ref (B + 7)]) (c_X12_word e179) C hl.1 hH hS rfl wd_1170 mw_X12_word wd_1169 rfl (rmc_ok (by decide) (by decide)) (Nat.le_of_ble_eq_true rfl) ⟨Nat.le_of_ble_eq_true rfl, Nat.le_of_ble_eq_true rfl⟩ dX12_init_834 (fun H locs hH hS => ?_)
  have hq := bd_e h; clear h; obtain ⟨μ181, e182, h⟩ := hq
  refine h_last (j := 7) (rest := []) C hH hS ⟨by decide, by decide⟩ (show DSM[7]? = _ from rfl) (by decide) dX12_init_837 (fun H locs hH hS => ?_)
  replace hH : Hd (ωk G DSM B 0 49 E (nf 0 [])) μ181 H := Hd.to e182 hH
  replace hS : FS (ωk G DSM B 0 49 E (nf 0 [])) s H locs := hS
  replace C : Cx (ωk G DSM B 0 49 E (nf 0 [])) p s m args c cX12_init 1 RX12 := Cx.ofk hok C
  refine lv_aload_n hx hb dX12_init_838 rfl (lv_at hl 0 rfl) ?_
  refine h_getr (j := 0) (k := 9) (i := 7) C hH ⟨by decide, by decide⟩ (show DSM[0]? = _ from rfl) (by decide) rfl (show 9 < 69 by decide) rfl (by decide) rfl rfl wd_1196 dX12_init_839 ?_
  refine lv_bipush (v := 20) hx hb dX12_init_842 (by decide) ?_
  refine lv_bipush (v := 98) hx hb dX12_init_844 (by decide) ?_
  refine lv_bipush (v := 117) hx hb dX12_init_846 (by decide) ?_
  refine lv_bipush (v := 114) hx hb dX12_init_848 (by decide) ?_
  refine lv_bipush (v := 110) hx hb dX12_init_850 (by decide) ?_
  refine lv_bipush (v := 116) hx hb dX12_init_852 (by decide) ?_
  refine lv_iconst (v := 0) hx hb dX12_init_854 (by decide) ?_
  refine lv_iconst (v := 0) hx hb dX12_init_855 (by decide) ?_
  have hq := b1_e h; clear h; obtain ⟨r184, e183, h⟩ := hq
  refine cSl (as := [.int 98, .int 117, .int 114, .int 110, .int 116, .int 0, .int 0]) (rest := [.int 20, .ref (B + 7)]) (c_X12_word e183) C hl.1 hH hS rfl wd_1170 mw_X12_word wd_1169 rfl (rmc_ok (by decide) (by decide)) (Nat.le_of_ble_eq_true rfl) ⟨Nat.le_of_ble_eq_true rfl, Nat.le_of_ble_eq_true rfl⟩ dX12_init_856 (fun H locs hH hS => ?_)
  have hq := bd_e h; clear h; obtain ⟨μ185, e186, h⟩ := hq
  refine h_last (j := 7) (rest := []) C hH hS ⟨by decide, by decide⟩ (show DSM[7]? = _ from rfl) (by decide) dX12_init_859 (fun H locs hH hS => ?_)
  replace hH : Hd (ωk G DSM B 0 49 E (nf 0 [])) μ185 H := Hd.to e186 hH
  replace hS : FS (ωk G DSM B 0 49 E (nf 0 [])) s H locs := hS
  replace C : Cx (ωk G DSM B 0 49 E (nf 0 [])) p s m args c cX12_init 1 RX12 := Cx.ofk hok C
  refine lv_aload_n hx hb dX12_init_860 rfl (lv_at hl 0 rfl) ?_
  have hq := b1_e h; clear h; obtain ⟨μ188, e187, h⟩ := hq
  refine cVv (as := []) (rest := []) (c_X12_begins hW e187) C hl.1 hH hS rfl (jM_0 hW) rfl wd_30 wd_1178 mw_X12_begins wd_1176 rfl (rmc_ok (by decide) (by decide)) (Nat.le_of_ble_eq_true rfl) ⟨Nat.le_of_ble_eq_true rfl, Nat.le_of_ble_eq_true rfl⟩ (by decide) dX12_init_861 (fun H locs hH hS => ?_)
  refine lv_aload_n hx hb dX12_init_864 rfl (lv_at hl 0 rfl) ?_
  have hq := b1_e h; clear h; obtain ⟨μ190, e189, h⟩ := hq
  refine cVv (as := []) (rest := []) (c_X12_keepsRow hW e189) C hl.1 hH hS rfl (jM_0 hW) rfl wd_32 wd_1186 mw_X12_keepsRow wd_1184 rfl (rmc_ok (by decide) (by decide)) (Nat.le_of_ble_eq_true rfl) ⟨Nat.le_of_ble_eq_true rfl, Nat.le_of_ble_eq_true rfl⟩ (by decide) dX12_init_865 (fun H locs hH hS => ?_)
  cases h
  exact k_ret (len := 49) C hr hlk hH hS (by first | rfl | omega) (fun j k => nf_nil) (by first | rfl | omega) (by first | rfl | omega) dX12_init_868
