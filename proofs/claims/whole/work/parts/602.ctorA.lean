theorem dX7_init_0 : decode cX7_init 0 = .ok (.aload_n 0, 1) := by decide +kernel
theorem dX7_init_1 : decode cX7_init 1 = .ok (.invokespecial 3, 3) := by decide +kernel
theorem dX7_init_4 : decode cX7_init 4 = .ok (.aload_n 0, 1) := by decide +kernel
theorem dX7_init_5 : decode cX7_init 5 = .ok (.bipush 42, 2) := by decide +kernel
theorem dX7_init_7 : decode cX7_init 7 = .ok (.newarray .int, 2) := by decide +kernel
theorem dX7_init_9 : decode cX7_init 9 = .ok (.putfield 11, 3) := by decide +kernel
theorem dX7_init_12 : decode cX7_init 12 = .ok (.return_, 1) := by decide +kernel
def fX7_init (i : Nat) (μ : Mem) : Option Mem :=
  bd (zr μ (i + 1)) (fun μ1 => some μ1)
set_option maxHeartbeats 8000000 in
set_option maxRecDepth 100000 in
theorem i_X7 {l : Launch} {G : GG} {DS : List (Nat × Nat)} {B i : Nat} {E : State → Prop} {μ μo : Mem} (hE : ∀ U, E U → KX G U) (hd : ∀ r x, LState[r]? = some x → DS[i + r]? = some x) (h : fX7_init i μ = some μo) : Ini l yX7_init cX7_init 1 2 1 42 G DS B i 2 E [] μ μo := by
  refine ini_of (by decide) rfl (Nat.le_of_ble_eq_true rfl) (fun p e s m args below meth c ls C hr hlk hin2 hok hl hH hS => ?_)
  have hx := C.1
  have hb := C.2.1
  unfold fX7_init at h
  have hH := hH.ent (Rem := [0]) (hd 0 _ rfl) (by decide) (ft_rem (by decide +kernel) (by decide +kernel))
  have hS : FS (ωk G DS B i (i + 1) E (nf i [0])) s s.heap [] := hS
  have C : Cx (ωk G DS B i (i + 1) E (nf i [0])) p s m args c cX7_init 1 RX7 := Cx.ofk hok C
  obtain ⟨H, hHs⟩ : ∃ H, H = s.heap := ⟨_, rfl⟩
  rw [← hHs] at hH ⊢
  obtain ⟨locs, hlocs⟩ : ∃ locs : List Loc, locs = [] := ⟨_, rfl⟩
  rw [← hlocs] at hS ⊢
  have hS : FS (ωk G DS B i (i + 1) E (nf i [0])) s H locs := by rw [hHs]; exact hS
  refine lv_aload_n hx hb dX7_init_0 rfl (lv_at hl 0 rfl) ?_
  refine k_obj (rest := []) C hl.1 wd_321 (Nat.le_of_ble_eq_true rfl) (Nat.le_of_ble_eq_true rfl) dX7_init_1 ?_
  refine lv_aload_n hx hb dX7_init_4 rfl (lv_at hl 0 rfl) ?_
  refine lv_bipush (v := 42) hx hb dX7_init_5 (by decide) ?_
  have hq := bd_e h; clear h; obtain ⟨μ1, e2, h⟩ := hq
  refine k_newa (atype := .int) (rest := [.ref (B + i)]) hE C hH hS (by omega) (hd 1 _ rfl) rfl (by decide) (by decide) wd_210 (by decide) (by decide) (by decide) (by simp only [rmc]; omega) (by simp only [rmc]; omega) dX7_init_7 (fun H hH hS => ?_)
  replace hH : Hd (ωk G DS B i (i + 2) E (nf i [0])) μ1 H := Hd.to e2 hH
  replace hS : FS (ωk G DS B i (i + 2) E (nf i [0])) s H locs := hS
  replace C : Cx (ωk G DS B i (i + 2) E (nf i [0])) p s m args c cX7_init 1 RX7 := Cx.ofk hok C
  refine k_putr hin2 (k := 0) (Rem := []) (ty := tyX7 0) (rest := []) C hH hS (hd 0 _ rfl) (by decide) rfl (show 0 < 5 by decide) rfl wd_322 rfl rfl rfl (by decide) rfl (by decide) (by omega) dX7_init_9 (fun H locs hH hS => ?_)
  replace hS : FS (ωk G DS B i (i + 2) E (nf i [])) s H locs := hS
  replace C : Cx (ωk G DS B i (i + 2) E (nf i [])) p s m args c cX7_init 1 RX7 := Cx.ofk hok C
  replace hH : Hd (ωk G DS B i (i + 2) E (nf i [])) μ1 H := hH
  cases h
  exact k_ret (len := 2) C hr hlk hH hS (by first | rfl | omega) (fun j k => nf_nil) (by first | rfl | omega) (by first | rfl | omega) dX7_init_12
theorem dX1_init_0 : decode cX1_init 0 = .ok (.aload_n 0, 1) := by decide +kernel
theorem dX1_init_1 : decode cX1_init 1 = .ok (.invokespecial 3, 3) := by decide +kernel
theorem dX1_init_4 : decode cX1_init 4 = .ok (.aload_n 0, 1) := by decide +kernel
theorem dX1_init_5 : decode cX1_init 5 = .ok (.sipush 416, 3) := by decide +kernel
theorem dX1_init_8 : decode cX1_init 8 = .ok (.newarray .int, 2) := by decide +kernel
theorem dX1_init_10 : decode cX1_init 10 = .ok (.putfield 11, 3) := by decide +kernel
theorem dX1_init_13 : decode cX1_init 13 = .ok (.aload_n 0, 1) := by decide +kernel
theorem dX1_init_14 : decode cX1_init 14 = .ok (.sipush 416, 3) := by decide +kernel
theorem dX1_init_17 : decode cX1_init 17 = .ok (.newarray .int, 2) := by decide +kernel
theorem dX1_init_19 : decode cX1_init 19 = .ok (.putfield 15, 3) := by decide +kernel
theorem dX1_init_22 : decode cX1_init 22 = .ok (.aload_n 0, 1) := by decide +kernel
theorem dX1_init_23 : decode cX1_init 23 = .ok (.iconst 4, 1) := by decide +kernel
theorem dX1_init_24 : decode cX1_init 24 = .ok (.newarray .int, 2) := by decide +kernel
theorem dX1_init_26 : decode cX1_init 26 = .ok (.putfield 18, 3) := by decide +kernel
theorem dX1_init_29 : decode cX1_init 29 = .ok (.aload_n 0, 1) := by decide +kernel
theorem dX1_init_30 : decode cX1_init 30 = .ok (.bipush 32, 2) := by decide +kernel
theorem dX1_init_32 : decode cX1_init 32 = .ok (.newarray .int, 2) := by decide +kernel
theorem dX1_init_34 : decode cX1_init 34 = .ok (.putfield 21, 3) := by decide +kernel
theorem dX1_init_37 : decode cX1_init 37 = .ok (.aload_n 0, 1) := by decide +kernel
theorem dX1_init_38 : decode cX1_init 38 = .ok (.invokevirtual 24, 3) := by decide +kernel
theorem dX1_init_41 : decode cX1_init 41 = .ok (.return_, 1) := by decide +kernel
def fX1_init (i : Nat) (μ : Mem) : Option Mem :=
  bd (zr μ (i + 1)) (fun μ1 => bd (zr μ1 (i + 2)) (fun μ3 => bd (zr μ3 (i + 3)) (fun μ5 => bd (zr μ5 (i + 4)) (fun μ7 => b1 (fX1_setUntold i μ7) (fun μ10 => some μ10)))))
set_option maxHeartbeats 8000000 in
set_option maxRecDepth 100000 in
theorem i_X1 {l : Launch} {G : GG} {DS : List (Nat × Nat)} {B i : Nat} {E : State → Prop} {μ μo : Mem} (hE : ∀ U, E U → KX G U) (hd : ∀ r x, LLaws[r]? = some x → DS[i + r]? = some x) (h : fX1_init i μ = some μo) : Ini l yX1_init cX1_init 1 6 4 868 G DS B i 5 E [] μ μo := by
  refine ini_of (by decide) rfl (Nat.le_of_ble_eq_true rfl) (fun p e s m args below meth c ls C hr hlk hin2 hok hl hH hS => ?_)
  have hx := C.1
  have hb := C.2.1
  unfold fX1_init at h
  have hH := hH.ent (Rem := [0, 1, 2, 3]) (hd 0 _ rfl) (by decide) (ft_rem (by decide +kernel) (by decide +kernel))
  have hS : FS (ωk G DS B i (i + 1) E (nf i [0, 1, 2, 3])) s s.heap [] := hS
  have C : Cx (ωk G DS B i (i + 1) E (nf i [0, 1, 2, 3])) p s m args c cX1_init 1 RX1 := Cx.ofk hok C
  obtain ⟨H, hHs⟩ : ∃ H, H = s.heap := ⟨_, rfl⟩
  rw [← hHs] at hH ⊢
  obtain ⟨locs, hlocs⟩ : ∃ locs : List Loc, locs = [] := ⟨_, rfl⟩
  rw [← hlocs] at hS ⊢
  have hS : FS (ωk G DS B i (i + 1) E (nf i [0, 1, 2, 3])) s H locs := by rw [hHs]; exact hS
  refine lv_aload_n hx hb dX1_init_0 rfl (lv_at hl 0 rfl) ?_
  refine k_obj (rest := []) C hl.1 wd_222 (Nat.le_of_ble_eq_true rfl) (Nat.le_of_ble_eq_true rfl) dX1_init_1 ?_
  refine lv_aload_n hx hb dX1_init_4 rfl (lv_at hl 0 rfl) ?_
  refine lv_sipush (v := 416) hx hb dX1_init_5 (by decide) ?_
  have hq := bd_e h; clear h; obtain ⟨μ1, e2, h⟩ := hq
  refine k_newa (atype := .int) (rest := [.ref (B + i)]) hE C hH hS (by omega) (hd 1 _ rfl) rfl (by decide) (by decide) wd_210 (by decide) (by decide) (by decide) (by simp only [rmc]; omega) (by simp only [rmc]; omega) dX1_init_8 (fun H hH hS => ?_)
  replace hH : Hd (ωk G DS B i (i + 2) E (nf i [0, 1, 2, 3])) μ1 H := Hd.to e2 hH
  replace hS : FS (ωk G DS B i (i + 2) E (nf i [0, 1, 2, 3])) s H locs := hS
  replace C : Cx (ωk G DS B i (i + 2) E (nf i [0, 1, 2, 3])) p s m args c cX1_init 1 RX1 := Cx.ofk hok C
  refine k_putr hin2 (k := 0) (Rem := [1, 2, 3]) (ty := tyX1 0) (rest := []) C hH hS (hd 0 _ rfl) (by decide) rfl (show 0 < 5 by decide) rfl wd_235 rfl rfl rfl (by decide) rfl (by decide) (by omega) dX1_init_10 (fun H locs hH hS => ?_)
  replace hS : FS (ωk G DS B i (i + 2) E (nf i [1, 2, 3])) s H locs := hS
  replace C : Cx (ωk G DS B i (i + 2) E (nf i [1, 2, 3])) p s m args c cX1_init 1 RX1 := Cx.ofk hok C
  replace hH : Hd (ωk G DS B i (i + 2) E (nf i [1, 2, 3])) μ1 H := hH
  refine lv_aload_n hx hb dX1_init_13 rfl (lv_at hl 0 rfl) ?_
  refine lv_sipush (v := 416) hx hb dX1_init_14 (by decide) ?_
  have hq := bd_e h; clear h; obtain ⟨μ3, e4, h⟩ := hq
  refine k_newa (atype := .int) (rest := [.ref (B + i)]) hE C hH hS (by omega) (hd 2 _ rfl) rfl (by decide) (by decide) wd_210 (by decide) (by decide) (by decide) (by simp only [rmc]; omega) (by simp only [rmc]; omega) dX1_init_17 (fun H hH hS => ?_)
  replace hH : Hd (ωk G DS B i (i + 3) E (nf i [1, 2, 3])) μ3 H := Hd.to e4 hH
  replace hS : FS (ωk G DS B i (i + 3) E (nf i [1, 2, 3])) s H locs := hS
  replace C : Cx (ωk G DS B i (i + 3) E (nf i [1, 2, 3])) p s m args c cX1_init 1 RX1 := Cx.ofk hok C
  refine k_putr hin2 (k := 1) (Rem := [2, 3]) (ty := tyX1 1) (rest := []) C hH hS (hd 0 _ rfl) (by decide) rfl (show 1 < 5 by decide) rfl wd_236 rfl rfl rfl (by decide) rfl (by decide) (by omega) dX1_init_19 (fun H locs hH hS => ?_)
  replace hS : FS (ωk G DS B i (i + 3) E (nf i [2, 3])) s H locs := hS
  replace C : Cx (ωk G DS B i (i + 3) E (nf i [2, 3])) p s m args c cX1_init 1 RX1 := Cx.ofk hok C
  replace hH : Hd (ωk G DS B i (i + 3) E (nf i [2, 3])) μ3 H := hH
  refine lv_aload_n hx hb dX1_init_22 rfl (lv_at hl 0 rfl) ?_
  refine lv_iconst (v := 4) hx hb dX1_init_23 (by decide) ?_
  have hq := bd_e h; clear h; obtain ⟨μ5, e6, h⟩ := hq
  refine k_newa (atype := .int) (rest := [.ref (B + i)]) hE C hH hS (by omega) (hd 3 _ rfl) rfl (by decide) (by decide) wd_210 (by decide) (by decide) (by decide) (by simp only [rmc]; omega) (by simp only [rmc]; omega) dX1_init_24 (fun H hH hS => ?_)
  replace hH : Hd (ωk G DS B i (i + 4) E (nf i [2, 3])) μ5 H := Hd.to e6 hH
  replace hS : FS (ωk G DS B i (i + 4) E (nf i [2, 3])) s H locs := hS
  replace C : Cx (ωk G DS B i (i + 4) E (nf i [2, 3])) p s m args c cX1_init 1 RX1 := Cx.ofk hok C
  refine k_putr hin2 (k := 2) (Rem := [3]) (ty := tyX1 2) (rest := []) C hH hS (hd 0 _ rfl) (by decide) rfl (show 2 < 5 by decide) rfl wd_237 rfl rfl rfl (by decide) rfl (by decide) (by omega) dX1_init_26 (fun H locs hH hS => ?_)
  replace hS : FS (ωk G DS B i (i + 4) E (nf i [3])) s H locs := hS
  replace C : Cx (ωk G DS B i (i + 4) E (nf i [3])) p s m args c cX1_init 1 RX1 := Cx.ofk hok C
  replace hH : Hd (ωk G DS B i (i + 4) E (nf i [3])) μ5 H := hH
  refine lv_aload_n hx hb dX1_init_29 rfl (lv_at hl 0 rfl) ?_
  refine lv_bipush (v := 32) hx hb dX1_init_30 (by decide) ?_
  have hq := bd_e h; clear h; obtain ⟨μ7, e8, h⟩ := hq
  refine k_newa (atype := .int) (rest := [.ref (B + i)]) hE C hH hS (by omega) (hd 4 _ rfl) rfl (by decide) (by decide) wd_210 (by decide) (by decide) (by decide) (by simp only [rmc]; omega) (by simp only [rmc]; omega) dX1_init_32 (fun H hH hS => ?_)
  replace hH : Hd (ωk G DS B i (i + 5) E (nf i [3])) μ7 H := Hd.to e8 hH
  replace hS : FS (ωk G DS B i (i + 5) E (nf i [3])) s H locs := hS
  replace C : Cx (ωk G DS B i (i + 5) E (nf i [3])) p s m args c cX1_init 1 RX1 := Cx.ofk hok C
  refine k_putr hin2 (k := 3) (Rem := []) (ty := tyX1 3) (rest := []) C hH hS (hd 0 _ rfl) (by decide) rfl (show 3 < 5 by decide) rfl wd_238 rfl rfl rfl (by decide) rfl (by decide) (by omega) dX1_init_34 (fun H locs hH hS => ?_)
  replace hS : FS (ωk G DS B i (i + 5) E (nf i [])) s H locs := hS
  replace C : Cx (ωk G DS B i (i + 5) E (nf i [])) p s m args c cX1_init 1 RX1 := Cx.ofk hok C
  replace hH : Hd (ωk G DS B i (i + 5) E (nf i [])) μ7 H := hH
  refine lv_aload_n hx hb dX1_init_37 rfl (lv_at hl 0 rfl) ?_
  have hq := b1_e h; clear h; obtain ⟨μ10, e9, h⟩ := hq
  refine cVv (as := []) (rest := []) (c_X1_setUntold (show IsL (ωk G DS B i (i + 5) E (nf i [])) i from ⟨⟨⟨by omega, by omega⟩, (hd 0 _ rfl), fun k => nf_nil⟩, ⟨⟨by omega, by omega⟩, (hd 1 _ rfl), fun k => nf_nil⟩, ⟨⟨by omega, by omega⟩, (hd 2 _ rfl), fun k => nf_nil⟩, ⟨⟨by omega, by omega⟩, (hd 3 _ rfl), fun k => nf_nil⟩, ⟨⟨by omega, by omega⟩, (hd 4 _ rfl), fun k => nf_nil⟩⟩) e9) C hl.1 hH hS rfl (show Is (ωk G DS B i (i + 5) E (nf i [])) i 1 5 from ⟨⟨by omega, by omega⟩, (hd 0 _ rfl), fun k => nf_nil⟩) rfl wd_225 wd_224 mw_X1_setUntold wd_223 rfl (rmc_ok (by decide) (by decide)) (Nat.le_of_ble_eq_true rfl) ⟨by simp only [rmc]; omega, by simp only [rmc]; omega⟩ (by decide) dX1_init_38 (fun H locs hH hS => ?_)
  cases h
  exact k_ret (len := 5) C hr hlk hH hS (by first | rfl | omega) (fun j k => nf_nil) (by first | rfl | omega) (by first | rfl | omega) dX1_init_41
theorem dX10_init_0 : decode cX10_init 0 = .ok (.aload_n 0, 1) := by decide +kernel
theorem dX10_init_1 : decode cX10_init 1 = .ok (.invokespecial 3, 3) := by decide +kernel
theorem dX10_init_4 : decode cX10_init 4 = .ok (.aload_n 0, 1) := by decide +kernel
theorem dX10_init_5 : decode cX10_init 5 = .ok (.bipush 6, 2) := by decide +kernel
theorem dX10_init_7 : decode cX10_init 7 = .ok (.newarray .int, 2) := by decide +kernel
theorem dX10_init_9 : decode cX10_init 9 = .ok (.putfield 9, 3) := by decide +kernel
theorem dX10_init_12 : decode cX10_init 12 = .ok (.aload_n 0, 1) := by decide +kernel
theorem dX10_init_13 : decode cX10_init 13 = .ok (.bipush 6, 2) := by decide +kernel
theorem dX10_init_15 : decode cX10_init 15 = .ok (.newarray .int, 2) := by decide +kernel
theorem dX10_init_17 : decode cX10_init 17 = .ok (.putfield 15, 3) := by decide +kernel
theorem dX10_init_20 : decode cX10_init 20 = .ok (.return_, 1) := by decide +kernel
def fX10_init (i : Nat) (μ : Mem) : Option Mem :=
  bd (zr μ (i + 1)) (fun μ1 => bd (zr μ1 (i + 2)) (fun μ3 => some μ3))
set_option maxHeartbeats 8000000 in
set_option maxRecDepth 100000 in
theorem i_X10 {l : Launch} {G : GG} {DS : List (Nat × Nat)} {B i : Nat} {E : State → Prop} {μ μo : Mem} (hE : ∀ U, E U → KX G U) (hd : ∀ r x, LWay[r]? = some x → DS[i + r]? = some x) (h : fX10_init i μ = some μo) : Ini l yX10_init cX10_init 1 2 2 12 G DS B i 3 E [] μ μo := by
  refine ini_of (by decide) rfl (Nat.le_of_ble_eq_true rfl) (fun p e s m args below meth c ls C hr hlk hin2 hok hl hH hS => ?_)
  have hx := C.1
  have hb := C.2.1
  unfold fX10_init at h
  have hH := hH.ent (Rem := [0, 1]) (hd 0 _ rfl) (by decide) (ft_rem (by decide +kernel) (by decide +kernel))
  have hS : FS (ωk G DS B i (i + 1) E (nf i [0, 1])) s s.heap [] := hS
  have C : Cx (ωk G DS B i (i + 1) E (nf i [0, 1])) p s m args c cX10_init 1 RX10 := Cx.ofk hok C
  obtain ⟨H, hHs⟩ : ∃ H, H = s.heap := ⟨_, rfl⟩
  rw [← hHs] at hH ⊢
  obtain ⟨locs, hlocs⟩ : ∃ locs : List Loc, locs = [] := ⟨_, rfl⟩
  rw [← hlocs] at hS ⊢
  have hS : FS (ωk G DS B i (i + 1) E (nf i [0, 1])) s H locs := by rw [hHs]; exact hS
  refine lv_aload_n hx hb dX10_init_0 rfl (lv_at hl 0 rfl) ?_
  refine k_obj (rest := []) C hl.1 wd_409 (Nat.le_of_ble_eq_true rfl) (Nat.le_of_ble_eq_true rfl) dX10_init_1 ?_
  refine lv_aload_n hx hb dX10_init_4 rfl (lv_at hl 0 rfl) ?_
  refine lv_bipush (v := 6) hx hb dX10_init_5 (by decide) ?_
  have hq := bd_e h; clear h; obtain ⟨μ1, e2, h⟩ := hq
  refine k_newa (atype := .int) (rest := [.ref (B + i)]) hE C hH hS (by omega) (hd 1 _ rfl) rfl (by decide) (by decide) wd_210 (by decide) (by decide) (by decide) (by simp only [rmc]; omega) (by simp only [rmc]; omega) dX10_init_7 (fun H hH hS => ?_)
  replace hH : Hd (ωk G DS B i (i + 2) E (nf i [0, 1])) μ1 H := Hd.to e2 hH
  replace hS : FS (ωk G DS B i (i + 2) E (nf i [0, 1])) s H locs := hS
  replace C : Cx (ωk G DS B i (i + 2) E (nf i [0, 1])) p s m args c cX10_init 1 RX10 := Cx.ofk hok C
  refine k_putr hin2 (k := 0) (Rem := [1]) (ty := tyX10 0) (rest := []) C hH hS (hd 0 _ rfl) (by decide) rfl (show 0 < 3 by decide) rfl wd_410 rfl rfl rfl (by decide) rfl (by decide) (by omega) dX10_init_9 (fun H locs hH hS => ?_)
  replace hS : FS (ωk G DS B i (i + 2) E (nf i [1])) s H locs := hS
  replace C : Cx (ωk G DS B i (i + 2) E (nf i [1])) p s m args c cX10_init 1 RX10 := Cx.ofk hok C
  replace hH : Hd (ωk G DS B i (i + 2) E (nf i [1])) μ1 H := hH
  refine lv_aload_n hx hb dX10_init_12 rfl (lv_at hl 0 rfl) ?_
  refine lv_bipush (v := 6) hx hb dX10_init_13 (by decide) ?_
  have hq := bd_e h; clear h; obtain ⟨μ3, e4, h⟩ := hq
  refine k_newa (atype := .int) (rest := [.ref (B + i)]) hE C hH hS (by omega) (hd 2 _ rfl) rfl (by decide) (by decide) wd_210 (by decide) (by decide) (by decide) (by simp only [rmc]; omega) (by simp only [rmc]; omega) dX10_init_15 (fun H hH hS => ?_)
  replace hH : Hd (ωk G DS B i (i + 3) E (nf i [1])) μ3 H := Hd.to e4 hH
  replace hS : FS (ωk G DS B i (i + 3) E (nf i [1])) s H locs := hS
  replace C : Cx (ωk G DS B i (i + 3) E (nf i [1])) p s m args c cX10_init 1 RX10 := Cx.ofk hok C
  refine k_putr hin2 (k := 1) (Rem := []) (ty := tyX10 1) (rest := []) C hH hS (hd 0 _ rfl) (by decide) rfl (show 1 < 3 by decide) rfl wd_411 rfl rfl rfl (by decide) rfl (by decide) (by omega) dX10_init_17 (fun H locs hH hS => ?_)
  replace hS : FS (ωk G DS B i (i + 3) E (nf i [])) s H locs := hS
  replace C : Cx (ωk G DS B i (i + 3) E (nf i [])) p s m args c cX10_init 1 RX10 := Cx.ofk hok C
  replace hH : Hd (ωk G DS B i (i + 3) E (nf i [])) μ3 H := hH
  cases h
  exact k_ret (len := 3) C hr hlk hH hS (by first | rfl | omega) (fun j k => nf_nil) (by first | rfl | omega) (by first | rfl | omega) dX10_init_20
theorem dX5_init_0 : decode cX5_init 0 = .ok (.aload_n 0, 1) := by decide +kernel
theorem dX5_init_1 : decode cX5_init 1 = .ok (.invokespecial 3, 3) := by decide +kernel
theorem dX5_init_4 : decode cX5_init 4 = .ok (.aload_n 0, 1) := by decide +kernel
theorem dX5_init_5 : decode cX5_init 5 = .ok (.bipush 6, 2) := by decide +kernel
theorem dX5_init_7 : decode cX5_init 7 = .ok (.newarray .int, 2) := by decide +kernel
theorem dX5_init_9 : decode cX5_init 9 = .ok (.putfield 9, 3) := by decide +kernel
theorem dX5_init_12 : decode cX5_init 12 = .ok (.aload_n 0, 1) := by decide +kernel
theorem dX5_init_13 : decode cX5_init 13 = .ok (.bipush 6, 2) := by decide +kernel
theorem dX5_init_15 : decode cX5_init 15 = .ok (.newarray .int, 2) := by decide +kernel
theorem dX5_init_17 : decode cX5_init 17 = .ok (.putfield 15, 3) := by decide +kernel
theorem dX5_init_20 : decode cX5_init 20 = .ok (.return_, 1) := by decide +kernel
def fX5_init (i : Nat) (μ : Mem) : Option Mem :=
  bd (zr μ (i + 1)) (fun μ1 => bd (zr μ1 (i + 2)) (fun μ3 => some μ3))
set_option maxHeartbeats 8000000 in
set_option maxRecDepth 100000 in
theorem i_X5 {l : Launch} {G : GG} {DS : List (Nat × Nat)} {B i : Nat} {E : State → Prop} {μ μo : Mem} (hE : ∀ U, E U → KX G U) (hd : ∀ r x, LRoofs[r]? = some x → DS[i + r]? = some x) (h : fX5_init i μ = some μo) : Ini l yX5_init cX5_init 1 2 2 12 G DS B i 3 E [] μ μo := by
  refine ini_of (by decide) rfl (Nat.le_of_ble_eq_true rfl) (fun p e s m args below meth c ls C hr hlk hin2 hok hl hH hS => ?_)
  have hx := C.1
  have hb := C.2.1
  unfold fX5_init at h
  have hH := hH.ent (Rem := [0, 1]) (hd 0 _ rfl) (by decide) (ft_rem (by decide +kernel) (by decide +kernel))
  have hS : FS (ωk G DS B i (i + 1) E (nf i [0, 1])) s s.heap [] := hS
  have C : Cx (ωk G DS B i (i + 1) E (nf i [0, 1])) p s m args c cX5_init 1 RX5 := Cx.ofk hok C
  obtain ⟨H, hHs⟩ : ∃ H, H = s.heap := ⟨_, rfl⟩
  rw [← hHs] at hH ⊢
  obtain ⟨locs, hlocs⟩ : ∃ locs : List Loc, locs = [] := ⟨_, rfl⟩
  rw [← hlocs] at hS ⊢
  have hS : FS (ωk G DS B i (i + 1) E (nf i [0, 1])) s H locs := by rw [hHs]; exact hS
  refine lv_aload_n hx hb dX5_init_0 rfl (lv_at hl 0 rfl) ?_
  refine k_obj (rest := []) C hl.1 wd_427 (Nat.le_of_ble_eq_true rfl) (Nat.le_of_ble_eq_true rfl) dX5_init_1 ?_
  refine lv_aload_n hx hb dX5_init_4 rfl (lv_at hl 0 rfl) ?_
  refine lv_bipush (v := 6) hx hb dX5_init_5 (by decide) ?_
  have hq := bd_e h; clear h; obtain ⟨μ1, e2, h⟩ := hq
  refine k_newa (atype := .int) (rest := [.ref (B + i)]) hE C hH hS (by omega) (hd 1 _ rfl) rfl (by decide) (by decide) wd_210 (by decide) (by decide) (by decide) (by simp only [rmc]; omega) (by simp only [rmc]; omega) dX5_init_7 (fun H hH hS => ?_)
  replace hH : Hd (ωk G DS B i (i + 2) E (nf i [0, 1])) μ1 H := Hd.to e2 hH
  replace hS : FS (ωk G DS B i (i + 2) E (nf i [0, 1])) s H locs := hS
  replace C : Cx (ωk G DS B i (i + 2) E (nf i [0, 1])) p s m args c cX5_init 1 RX5 := Cx.ofk hok C
  refine k_putr hin2 (k := 0) (Rem := [1]) (ty := tyX5 0) (rest := []) C hH hS (hd 0 _ rfl) (by decide) rfl (show 0 < 2 by decide) rfl wd_428 rfl rfl rfl (by decide) rfl (by decide) (by omega) dX5_init_9 (fun H locs hH hS => ?_)
  replace hS : FS (ωk G DS B i (i + 2) E (nf i [1])) s H locs := hS
  replace C : Cx (ωk G DS B i (i + 2) E (nf i [1])) p s m args c cX5_init 1 RX5 := Cx.ofk hok C
  replace hH : Hd (ωk G DS B i (i + 2) E (nf i [1])) μ1 H := hH
  refine lv_aload_n hx hb dX5_init_12 rfl (lv_at hl 0 rfl) ?_
  refine lv_bipush (v := 6) hx hb dX5_init_13 (by decide) ?_
  have hq := bd_e h; clear h; obtain ⟨μ3, e4, h⟩ := hq
  refine k_newa (atype := .int) (rest := [.ref (B + i)]) hE C hH hS (by omega) (hd 2 _ rfl) rfl (by decide) (by decide) wd_210 (by decide) (by decide) (by decide) (by simp only [rmc]; omega) (by simp only [rmc]; omega) dX5_init_15 (fun H hH hS => ?_)
  replace hH : Hd (ωk G DS B i (i + 3) E (nf i [1])) μ3 H := Hd.to e4 hH
  replace hS : FS (ωk G DS B i (i + 3) E (nf i [1])) s H locs := hS
  replace C : Cx (ωk G DS B i (i + 3) E (nf i [1])) p s m args c cX5_init 1 RX5 := Cx.ofk hok C
  refine k_putr hin2 (k := 1) (Rem := []) (ty := tyX5 1) (rest := []) C hH hS (hd 0 _ rfl) (by decide) rfl (show 1 < 2 by decide) rfl wd_430 rfl rfl rfl (by decide) rfl (by decide) (by omega) dX5_init_17 (fun H locs hH hS => ?_)
  replace hS : FS (ωk G DS B i (i + 3) E (nf i [])) s H locs := hS
  replace C : Cx (ωk G DS B i (i + 3) E (nf i [])) p s m args c cX5_init 1 RX5 := Cx.ofk hok C
  replace hH : Hd (ωk G DS B i (i + 3) E (nf i [])) μ3 H := hH
  cases h
  exact k_ret (len := 3) C hr hlk hH hS (by first | rfl | omega) (fun j k => nf_nil) (by first | rfl | omega) (by first | rfl | omega) dX5_init_20
theorem dX2_init_0 : decode cX2_init 0 = .ok (.aload_n 0, 1) := by decide +kernel
theorem dX2_init_1 : decode cX2_init 1 = .ok (.invokespecial 3, 3) := by decide +kernel
theorem dX2_init_4 : decode cX2_init 4 = .ok (.aload_n 0, 1) := by decide +kernel
theorem dX2_init_5 : decode cX2_init 5 = .ok (.bipush 6, 2) := by decide +kernel
theorem dX2_init_7 : decode cX2_init 7 = .ok (.newarray .int, 2) := by decide +kernel
theorem dX2_init_9 : decode cX2_init 9 = .ok (.putfield 9, 3) := by decide +kernel
theorem dX2_init_12 : decode cX2_init 12 = .ok (.aload_n 0, 1) := by decide +kernel
theorem dX2_init_13 : decode cX2_init 13 = .ok (.bipush 6, 2) := by decide +kernel
theorem dX2_init_15 : decode cX2_init 15 = .ok (.newarray .int, 2) := by decide +kernel
theorem dX2_init_17 : decode cX2_init 17 = .ok (.putfield 15, 3) := by decide +kernel
theorem dX2_init_20 : decode cX2_init 20 = .ok (.return_, 1) := by decide +kernel
def fX2_init (i : Nat) (μ : Mem) : Option Mem :=
  bd (zr μ (i + 1)) (fun μ1 => bd (zr μ1 (i + 2)) (fun μ3 => some μ3))
set_option maxHeartbeats 8000000 in
set_option maxRecDepth 100000 in
theorem i_X2 {l : Launch} {G : GG} {DS : List (Nat × Nat)} {B i : Nat} {E : State → Prop} {μ μo : Mem} (hE : ∀ U, E U → KX G U) (hd : ∀ r x, LPairs[r]? = some x → DS[i + r]? = some x) (h : fX2_init i μ = some μo) : Ini l yX2_init cX2_init 1 2 2 12 G DS B i 3 E [] μ μo := by
  refine ini_of (by decide) rfl (Nat.le_of_ble_eq_true rfl) (fun p e s m args below meth c ls C hr hlk hin2 hok hl hH hS => ?_)
  have hx := C.1
  have hb := C.2.1
  unfold fX2_init at h
  have hH := hH.ent (Rem := [0, 1]) (hd 0 _ rfl) (by decide) (ft_rem (by decide +kernel) (by decide +kernel))
  have hS : FS (ωk G DS B i (i + 1) E (nf i [0, 1])) s s.heap [] := hS
  have C : Cx (ωk G DS B i (i + 1) E (nf i [0, 1])) p s m args c cX2_init 1 RX2 := Cx.ofk hok C
  obtain ⟨H, hHs⟩ : ∃ H, H = s.heap := ⟨_, rfl⟩
  rw [← hHs] at hH ⊢
  obtain ⟨locs, hlocs⟩ : ∃ locs : List Loc, locs = [] := ⟨_, rfl⟩
  rw [← hlocs] at hS ⊢
  have hS : FS (ωk G DS B i (i + 1) E (nf i [0, 1])) s H locs := by rw [hHs]; exact hS
  refine lv_aload_n hx hb dX2_init_0 rfl (lv_at hl 0 rfl) ?_
  refine k_obj (rest := []) C hl.1 wd_441 (Nat.le_of_ble_eq_true rfl) (Nat.le_of_ble_eq_true rfl) dX2_init_1 ?_
  refine lv_aload_n hx hb dX2_init_4 rfl (lv_at hl 0 rfl) ?_
  refine lv_bipush (v := 6) hx hb dX2_init_5 (by decide) ?_
  have hq := bd_e h; clear h; obtain ⟨μ1, e2, h⟩ := hq
  refine k_newa (atype := .int) (rest := [.ref (B + i)]) hE C hH hS (by omega) (hd 1 _ rfl) rfl (by decide) (by decide) wd_210 (by decide) (by decide) (by decide) (by simp only [rmc]; omega) (by simp only [rmc]; omega) dX2_init_7 (fun H hH hS => ?_)
  replace hH : Hd (ωk G DS B i (i + 2) E (nf i [0, 1])) μ1 H := Hd.to e2 hH
  replace hS : FS (ωk G DS B i (i + 2) E (nf i [0, 1])) s H locs := hS
  replace C : Cx (ωk G DS B i (i + 2) E (nf i [0, 1])) p s m args c cX2_init 1 RX2 := Cx.ofk hok C
  refine k_putr hin2 (k := 0) (Rem := [1]) (ty := tyX2 0) (rest := []) C hH hS (hd 0 _ rfl) (by decide) rfl (show 0 < 3 by decide) rfl wd_442 rfl rfl rfl (by decide) rfl (by decide) (by omega) dX2_init_9 (fun H locs hH hS => ?_)
  replace hS : FS (ωk G DS B i (i + 2) E (nf i [1])) s H locs := hS
  replace C : Cx (ωk G DS B i (i + 2) E (nf i [1])) p s m args c cX2_init 1 RX2 := Cx.ofk hok C
  replace hH : Hd (ωk G DS B i (i + 2) E (nf i [1])) μ1 H := hH
  refine lv_aload_n hx hb dX2_init_12 rfl (lv_at hl 0 rfl) ?_
  refine lv_bipush (v := 6) hx hb dX2_init_13 (by decide) ?_
  have hq := bd_e h; clear h; obtain ⟨μ3, e4, h⟩ := hq
  refine k_newa (atype := .int) (rest := [.ref (B + i)]) hE C hH hS (by omega) (hd 2 _ rfl) rfl (by decide) (by decide) wd_210 (by decide) (by decide) (by decide) (by simp only [rmc]; omega) (by simp only [rmc]; omega) dX2_init_15 (fun H hH hS => ?_)
  replace hH : Hd (ωk G DS B i (i + 3) E (nf i [1])) μ3 H := Hd.to e4 hH
  replace hS : FS (ωk G DS B i (i + 3) E (nf i [1])) s H locs := hS
  replace C : Cx (ωk G DS B i (i + 3) E (nf i [1])) p s m args c cX2_init 1 RX2 := Cx.ofk hok C
  refine k_putr hin2 (k := 1) (Rem := []) (ty := tyX2 1) (rest := []) C hH hS (hd 0 _ rfl) (by decide) rfl (show 1 < 3 by decide) rfl wd_443 rfl rfl rfl (by decide) rfl (by decide) (by omega) dX2_init_17 (fun H locs hH hS => ?_)
  replace hS : FS (ωk G DS B i (i + 3) E (nf i [])) s H locs := hS
  replace C : Cx (ωk G DS B i (i + 3) E (nf i [])) p s m args c cX2_init 1 RX2 := Cx.ofk hok C
  replace hH : Hd (ωk G DS B i (i + 3) E (nf i [])) μ3 H := hH
  cases h
  exact k_ret (len := 3) C hr hlk hH hS (by first | rfl | omega) (fun j k => nf_nil) (by first | rfl | omega) (by first | rfl | omega) dX2_init_20
theorem dX9_init_0 : decode cX9_init 0 = .ok (.aload_n 0, 1) := by decide +kernel
theorem dX9_init_1 : decode cX9_init 1 = .ok (.invokespecial 3, 3) := by decide +kernel
theorem dX9_init_4 : decode cX9_init 4 = .ok (.aload_n 0, 1) := by decide +kernel
theorem dX9_init_5 : decode cX9_init 5 = .ok (.bipush 20, 2) := by decide +kernel
theorem dX9_init_7 : decode cX9_init 7 = .ok (.newarray .int, 2) := by decide +kernel
theorem dX9_init_9 : decode cX9_init 9 = .ok (.putfield 11, 3) := by decide +kernel
theorem dX9_init_12 : decode cX9_init 12 = .ok (.aload_n 0, 1) := by decide +kernel
theorem dX9_init_13 : decode cX9_init 13 = .ok (.bipush 20, 2) := by decide +kernel
theorem dX9_init_15 : decode cX9_init 15 = .ok (.newarray .int, 2) := by decide +kernel
theorem dX9_init_17 : decode cX9_init 17 = .ok (.putfield 15, 3) := by decide +kernel
theorem dX9_init_20 : decode cX9_init 20 = .ok (.aload_n 0, 1) := by decide +kernel
theorem dX9_init_21 : decode cX9_init 21 = .ok (.bipush 20, 2) := by decide +kernel
theorem dX9_init_23 : decode cX9_init 23 = .ok (.newarray .boolean, 2) := by decide +kernel
theorem dX9_init_25 : decode cX9_init 25 = .ok (.putfield 18, 3) := by decide +kernel
theorem dX9_init_28 : decode cX9_init 28 = .ok (.return_, 1) := by decide +kernel
def fX9_init (i : Nat) (μ : Mem) : Option Mem :=
  bd (zr μ (i + 1)) (fun μ1 => bd (zr μ1 (i + 2)) (fun μ3 => bd (zr μ3 (i + 3)) (fun μ5 => some μ5)))
set_option maxHeartbeats 8000000 in
set_option maxRecDepth 100000 in
theorem i_X9 {l : Launch} {G : GG} {DS : List (Nat × Nat)} {B i : Nat} {E : State → Prop} {μ μo : Mem} (hE : ∀ U, E U → KX G U) (hd : ∀ r x, LTold[r]? = some x → DS[i + r]? = some x) (h : fX9_init i μ = some μo) : Ini l yX9_init cX9_init 1 2 3 60 G DS B i 4 E [] μ μo := by
  refine ini_of (by decide) rfl (Nat.le_of_ble_eq_true rfl) (fun p e s m args below meth c ls C hr hlk hin2 hok hl hH hS => ?_)
  have hx := C.1
  have hb := C.2.1
  unfold fX9_init at h
  have hH := hH.ent (Rem := [0, 1, 2]) (hd 0 _ rfl) (by decide) (ft_rem (by decide +kernel) (by decide +kernel))
  have hS : FS (ωk G DS B i (i + 1) E (nf i [0, 1, 2])) s s.heap [] := hS
  have C : Cx (ωk G DS B i (i + 1) E (nf i [0, 1, 2])) p s m args c cX9_init 1 RX9 := Cx.ofk hok C
  obtain ⟨H, hHs⟩ : ∃ H, H = s.heap := ⟨_, rfl⟩
  rw [← hHs] at hH ⊢
  obtain ⟨locs, hlocs⟩ : ∃ locs : List Loc, locs = [] := ⟨_, rfl⟩
  rw [← hlocs] at hS ⊢
  have hS : FS (ωk G DS B i (i + 1) E (nf i [0, 1, 2])) s H locs := by rw [hHs]; exact hS
  refine lv_aload_n hx hb dX9_init_0 rfl (lv_at hl 0 rfl) ?_
  refine k_obj (rest := []) C hl.1 wd_459 (Nat.le_of_ble_eq_true rfl) (Nat.le_of_ble_eq_true rfl) dX9_init_1 ?_
  refine lv_aload_n hx hb dX9_init_4 rfl (lv_at hl 0 rfl) ?_
  refine lv_bipush (v := 20) hx hb dX9_init_5 (by decide) ?_
  have hq := bd_e h; clear h; obtain ⟨μ1, e2, h⟩ := hq
  refine k_newa (atype := .int) (rest := [.ref (B + i)]) hE C hH hS (by omega) (hd 1 _ rfl) rfl (by decide) (by decide) wd_210 (by decide) (by decide) (by decide) (by simp only [rmc]; omega) (by simp only [rmc]; omega) dX9_init_7 (fun H hH hS => ?_)
  replace hH : Hd (ωk G DS B i (i + 2) E (nf i [0, 1, 2])) μ1 H := Hd.to e2 hH
  replace hS : FS (ωk G DS B i (i + 2) E (nf i [0, 1, 2])) s H locs := hS
  replace C : Cx (ωk G DS B i (i + 2) E (nf i [0, 1, 2])) p s m args c cX9_init 1 RX9 := Cx.ofk hok C
  refine k_putr hin2 (k := 0) (Rem := [1, 2]) (ty := tyX9 0) (rest := []) C hH hS (hd 0 _ rfl) (by decide) rfl (show 0 < 4 by decide) rfl wd_460 rfl rfl rfl (by decide) rfl (by decide) (by omega) dX9_init_9 (fun H locs hH hS => ?_)
  replace hS : FS (ωk G DS B i (i + 2) E (nf i [1, 2])) s H locs := hS
  replace C : Cx (ωk G DS B i (i + 2) E (nf i [1, 2])) p s m args c cX9_init 1 RX9 := Cx.ofk hok C
  replace hH : Hd (ωk G DS B i (i + 2) E (nf i [1, 2])) μ1 H := hH
  refine lv_aload_n hx hb dX9_init_12 rfl (lv_at hl 0 rfl) ?_
  refine lv_bipush (v := 20) hx hb dX9_init_13 (by decide) ?_
  have hq := bd_e h; clear h; obtain ⟨μ3, e4, h⟩ := hq
  refine k_newa (atype := .int) (rest := [.ref (B + i)]) hE C hH hS (by omega) (hd 2 _ rfl) rfl (by decide) (by decide) wd_210 (by decide) (by decide) (by decide) (by simp only [rmc]; omega) (by simp only [rmc]; omega) dX9_init_15 (fun H hH hS => ?_)
  replace hH : Hd (ωk G DS B i (i + 3) E (nf i [1, 2])) μ3 H := Hd.to e4 hH
  replace hS : FS (ωk G DS B i (i + 3) E (nf i [1, 2])) s H locs := hS
  replace C : Cx (ωk G DS B i (i + 3) E (nf i [1, 2])) p s m args c cX9_init 1 RX9 := Cx.ofk hok C
  refine k_putr hin2 (k := 1) (Rem := [2]) (ty := tyX9 1) (rest := []) C hH hS (hd 0 _ rfl) (by decide) rfl (show 1 < 4 by decide) rfl wd_461 rfl rfl rfl (by decide) rfl (by decide) (by omega) dX9_init_17 (fun H locs hH hS => ?_)
  replace hS : FS (ωk G DS B i (i + 3) E (nf i [2])) s H locs := hS
  replace C : Cx (ωk G DS B i (i + 3) E (nf i [2])) p s m args c cX9_init 1 RX9 := Cx.ofk hok C
  replace hH : Hd (ωk G DS B i (i + 3) E (nf i [2])) μ3 H := hH
  refine lv_aload_n hx hb dX9_init_20 rfl (lv_at hl 0 rfl) ?_
  refine lv_bipush (v := 20) hx hb dX9_init_21 (by decide) ?_
  have hq := bd_e h; clear h; obtain ⟨μ5, e6, h⟩ := hq
  refine k_newa (atype := .boolean) (rest := [.ref (B + i)]) hE C hH hS (by omega) (hd 3 _ rfl) rfl (by decide) (by decide) wd_374 (by decide) (by decide) (by decide) (by simp only [rmc]; omega) (by simp only [rmc]; omega) dX9_init_23 (fun H hH hS => ?_)
  replace hH : Hd (ωk G DS B i (i + 4) E (nf i [2])) μ5 H := Hd.to e6 hH
  replace hS : FS (ωk G DS B i (i + 4) E (nf i [2])) s H locs := hS
  replace C : Cx (ωk G DS B i (i + 4) E (nf i [2])) p s m args c cX9_init 1 RX9 := Cx.ofk hok C
  refine k_putr hin2 (k := 2) (Rem := []) (ty := tyX9 2) (rest := []) C hH hS (hd 0 _ rfl) (by decide) rfl (show 2 < 4 by decide) rfl wd_462 rfl rfl rfl (by decide) rfl (by decide) (by omega) dX9_init_25 (fun H locs hH hS => ?_)
  replace hS : FS (ωk G DS B i (i + 4) E (nf i [])) s H locs := hS
  replace C : Cx (ωk G DS B i (i + 4) E (nf i [])) p s m args c cX9_init 1 RX9 := Cx.ofk hok C
  replace hH : Hd (ωk G DS B i (i + 4) E (nf i [])) μ5 H := hH
  cases h
  exact k_ret (len := 4) C hr hlk hH hS (by first | rfl | omega) (fun j k => nf_nil) (by first | rfl | omega) (by first | rfl | omega) dX9_init_28
theorem dX3_init_0 : decode cX3_init 0 = .ok (.aload_n 0, 1) := by decide +kernel
theorem dX3_init_1 : decode cX3_init 1 = .ok (.invokespecial 3, 3) := by decide +kernel
theorem dX3_init_4 : decode cX3_init 4 = .ok (.aload_n 0, 1) := by decide +kernel
theorem dX3_init_5 : decode cX3_init 5 = .ok (.bipush 30, 2) := by decide +kernel
theorem dX3_init_7 : decode cX3_init 7 = .ok (.newarray .int, 2) := by decide +kernel
theorem dX3_init_9 : decode cX3_init 9 = .ok (.putfield 11, 3) := by decide +kernel
theorem dX3_init_12 : decode cX3_init 12 = .ok (.aload_n 0, 1) := by decide +kernel
theorem dX3_init_13 : decode cX3_init 13 = .ok (.new 15, 3) := by decide +kernel
theorem dX3_init_16 : decode cX3_init 16 = .ok (.dup, 1) := by decide +kernel
theorem dX3_init_17 : decode cX3_init 17 = .ok (.invokespecial 17, 3) := by decide +kernel
theorem dX3_init_20 : decode cX3_init 20 = .ok (.putfield 18, 3) := by decide +kernel
theorem dX3_init_23 : decode cX3_init 23 = .ok (.aload_n 0, 1) := by decide +kernel
theorem dX3_init_24 : decode cX3_init 24 = .ok (.invokevirtual 22, 3) := by decide +kernel
theorem dX3_init_27 : decode cX3_init 27 = .ok (.return_, 1) := by decide +kernel
def fX3_init (i : Nat) (μ : Mem) : Option Mem :=
  bd (zr μ (i + 1)) (fun μ1 => bd (zr μ1 (i + 2)) (fun μ3 => b1 (fX1_init (i + 2) μ3) (fun μ5 => bd (mg (i + 2) μ3 μ5) (fun μ7 => b1 (fX3_setUntold i μ7) (fun μ10 => some μ10)))))
set_option maxHeartbeats 8000000 in
set_option maxRecDepth 100000 in
theorem i_X3 {l : Launch} {G : GG} {DS : List (Nat × Nat)} {B i : Nat} {E : State → Prop} {μ μo : Mem} (hE : ∀ U, E U → KX G U) (hd : ∀ r x, LQuarter[r]? = some x → DS[i + r]? = some x) (h : fX3_init i μ = some μo) : Ini l yX3_init cX3_init 1 8 6 903 G DS B i 7 E [] μ μo := by
  refine ini_of (by decide) rfl (Nat.le_of_ble_eq_true rfl) (fun p e s m args below meth c ls C hr hlk hin2 hok hl hH hS => ?_)
  have hx := C.1
  have hb := C.2.1
  unfold fX3_init at h
  have hH := hH.ent (Rem := [0, 1]) (hd 0 _ rfl) (by decide) (ft_rem (by decide +kernel) (by decide +kernel))
  have hS : FS (ωk G DS B i (i + 1) E (nf i [0, 1])) s s.heap [] := hS
  have C : Cx (ωk G DS B i (i + 1) E (nf i [0, 1])) p s m args c cX3_init 1 RX3 := Cx.ofk hok C
  obtain ⟨H, hHs⟩ : ∃ H, H = s.heap := ⟨_, rfl⟩
  rw [← hHs] at hH ⊢
  obtain ⟨locs, hlocs⟩ : ∃ locs : List Loc, locs = [] := ⟨_, rfl⟩
  rw [← hlocs] at hS ⊢
  have hS : FS (ωk G DS B i (i + 1) E (nf i [0, 1])) s H locs := by rw [hHs]; exact hS
  refine lv_aload_n hx hb dX3_init_0 rfl (lv_at hl 0 rfl) ?_
  refine k_obj (rest := []) C hl.1 wd_216 (Nat.le_of_ble_eq_true rfl) (Nat.le_of_ble_eq_true rfl) dX3_init_1 ?_
  refine lv_aload_n hx hb dX3_init_4 rfl (lv_at hl 0 rfl) ?_
  refine lv_bipush (v := 30) hx hb dX3_init_5 (by decide) ?_
  have hq := bd_e h; clear h; obtain ⟨μ1, e2, h⟩ := hq
  refine k_newa (atype := .int) (rest := [.ref (B + i)]) hE C hH hS (by omega) (hd 1 _ rfl) rfl (by decide) (by decide) wd_210 (by decide) (by decide) (by decide) (by simp only [rmc]; omega) (by simp only [rmc]; omega) dX3_init_7 (fun H hH hS => ?_)
  replace hH : Hd (ωk G DS B i (i + 2) E (nf i [0, 1])) μ1 H := Hd.to e2 hH
  replace hS : FS (ωk G DS B i (i + 2) E (nf i [0, 1])) s H locs := hS
  replace C : Cx (ωk G DS B i (i + 2) E (nf i [0, 1])) p s m args c cX3_init 1 RX3 := Cx.ofk hok C
  refine k_putr hin2 (k := 0) (Rem := [1]) (ty := tyX3 0) (rest := []) C hH hS (hd 0 _ rfl) (by decide) rfl (show 0 < 7 by decide) rfl wd_257 rfl rfl rfl (by decide) rfl (by decide) (by omega) dX3_init_9 (fun H locs hH hS => ?_)
  replace hS : FS (ωk G DS B i (i + 2) E (nf i [1])) s H locs := hS
  replace C : Cx (ωk G DS B i (i + 2) E (nf i [1])) p s m args c cX3_init 1 RX3 := Cx.ofk hok C
  replace hH : Hd (ωk G DS B i (i + 2) E (nf i [1])) μ1 H := hH
  refine lv_aload_n hx hb dX3_init_12 rfl (lv_at hl 0 rfl) ?_
  have hq := bd_e h; clear h; obtain ⟨μ3, e4, h⟩ := hq
  refine k_new (N' := ch (i + 2) (nf i [1])) (ty := tyX1) (r := (RX1, TX1, 5)) (rest := [.ref (B + i)]) C hH hS (by omega) (hd 2 _ rfl) (by decide) rfl tyX1_ok (by decide +kernel) (fun k => ch_eq) (fun j k hj => ch_ne (Nat.ne_of_lt hj)) wd_217 wd_218 wd_106 (by simp only [rmc]; omega) (by simp only [rmc]; omega) dX3_init_13 (fun H hH hS => ?_)
  replace hH : Hd (ωk G DS B i (i + 3) E (ch (i + 2) (nf i [1]))) μ3 H := Hd.to e4 hH
  refine lv_dup hx hb dX3_init_16 rfl ?_
  have hq := b1_e h; clear h; obtain ⟨μ5, e6, h⟩ := hq
  refine k_init (as := []) (rest := [.ref (B + (i + 2)), .ref (B + i)]) (N' := (nf i [1])) (i_X1 hE (lay_sub (Lc := LLaws) 2 hd (by decide +kernel)) e6) hok (Cx.ofk hok C) hl.1 (by omega) hH (fun k => ch_eq) (fun j k hj => (ch_ne (Nat.ne_of_lt hj)).symm) (fun j k hj => nf_ne (Nat.ne_of_gt (Nat.lt_of_lt_of_le (by omega) hj))) hS rfl mw_X1_init rfl wd_220 wd_219 rfl (rmc_ok (by decide) (by decide)) (Nat.le_of_ble_eq_true rfl) ⟨by simp only [rmc]; omega, by simp only [rmc]; omega⟩ dX3_init_17 (fun H locs hH hS => ?_)
  have hq := bd_e h; clear h; obtain ⟨μ7, e8, h⟩ := hq
  replace hH : Hd (ωk G DS B i (i + 7) E (nf i [1])) μ7 H := Hd.to e8 hH
  replace hS : FS (ωk G DS B i (i + 7) E (nf i [1])) s H locs := hS
  replace C : Cx (ωk G DS B i (i + 7) E (nf i [1])) p s m args c cX3_init 1 RX3 := Cx.ofk hok C
  refine k_putr hin2 (k := 1) (Rem := []) (ty := tyX3 1) (rest := []) C hH hS (hd 0 _ rfl) (by decide) rfl (show 1 < 7 by decide) rfl wd_258 rfl rfl rfl (by decide) rfl (by decide) (by omega) dX3_init_20 (fun H locs hH hS => ?_)
  replace hS : FS (ωk G DS B i (i + 7) E (nf i [])) s H locs := hS
  replace C : Cx (ωk G DS B i (i + 7) E (nf i [])) p s m args c cX3_init 1 RX3 := Cx.ofk hok C
  replace hH : Hd (ωk G DS B i (i + 7) E (nf i [])) μ7 H := hH
  refine lv_aload_n hx hb dX3_init_23 rfl (lv_at hl 0 rfl) ?_
  have hq := b1_e h; clear h; obtain ⟨μ10, e9, h⟩ := hq
  refine cVv (as := []) (rest := []) (c_X3_setUntold (show IsQ (ωk G DS B i (i + 7) E (nf i [])) i from ⟨⟨⟨by omega, by omega⟩, (hd 0 _ rfl), fun k => nf_nil⟩, ⟨⟨by omega, by omega⟩, (hd 1 _ rfl), fun k => nf_nil⟩, ⟨⟨⟨by omega, by omega⟩, (hd 2 _ rfl), fun k => nf_nil⟩, ⟨⟨by omega, by omega⟩, (hd 3 _ rfl), fun k => nf_nil⟩, ⟨⟨by omega, by omega⟩, (hd 4 _ rfl), fun k => nf_nil⟩, ⟨⟨by omega, by omega⟩, (hd 5 _ rfl), fun k => nf_nil⟩, ⟨⟨by omega, by omega⟩, (hd 6 _ rfl), fun k => nf_nil⟩⟩⟩) e9) C hl.1 hH hS rfl (show Is (ωk G DS B i (i + 7) E (nf i [])) i 3 7 from ⟨⟨by omega, by omega⟩, (hd 0 _ rfl), fun k => nf_nil⟩) rfl wd_254 wd_253 mw_X3_setUntold wd_252 rfl (rmc_ok (by decide) (by decide)) (Nat.le_of_ble_eq_true rfl) ⟨by simp only [rmc]; omega, by simp only [rmc]; omega⟩ (by decide) dX3_init_24 (fun H locs hH hS => ?_)
  cases h
  exact k_ret (len := 7) C hr hlk hH hS (by first | rfl | omega) (fun j k => nf_nil) (by first | rfl | omega) (by first | rfl | omega) dX3_init_27
theorem dX6_init_0 : decode cX6_init 0 = .ok (.aload_n 0, 1) := by decide +kernel
theorem dX6_init_1 : decode cX6_init 1 = .ok (.invokespecial 3, 3) := by decide +kernel
theorem dX6_init_4 : decode cX6_init 4 = .ok (.aload_n 0, 1) := by decide +kernel
theorem dX6_init_5 : decode cX6_init 5 = .ok (.iload_n 1, 1) := by decide +kernel
theorem dX6_init_6 : decode cX6_init 6 = .ok (.putfield 9, 3) := by decide +kernel
theorem dX6_init_9 : decode cX6_init 9 = .ok (.aload_n 0, 1) := by decide +kernel
theorem dX6_init_10 : decode cX6_init 10 = .ok (.new 15, 3) := by decide +kernel
theorem dX6_init_13 : decode cX6_init 13 = .ok (.dup, 1) := by decide +kernel
theorem dX6_init_14 : decode cX6_init 14 = .ok (.invokespecial 17, 3) := by decide +kernel
theorem dX6_init_17 : decode cX6_init 17 = .ok (.putfield 18, 3) := by decide +kernel
theorem dX6_init_20 : decode cX6_init 20 = .ok (.aload_n 0, 1) := by decide +kernel
theorem dX6_init_21 : decode cX6_init 21 = .ok (.bipush 6, 2) := by decide +kernel
theorem dX6_init_23 : decode cX6_init 23 = .ok (.iload_n 1, 1) := by decide +kernel
theorem dX6_init_24 : decode cX6_init 24 = .ok (.iconst 1, 1) := by decide +kernel
theorem dX6_init_25 : decode cX6_init 25 = .ok (.iadd, 1) := by decide +kernel
theorem dX6_init_26 : decode cX6_init 26 = .ok (.multianewarray 22 2, 4) := by decide +kernel
theorem dX6_init_30 : decode cX6_init 30 = .ok (.putfield 24, 3) := by decide +kernel
theorem dX6_init_33 : decode cX6_init 33 = .ok (.aload_n 0, 1) := by decide +kernel
theorem dX6_init_34 : decode cX6_init 34 = .ok (.bipush 7, 2) := by decide +kernel
theorem dX6_init_36 : decode cX6_init 36 = .ok (.iload_n 1, 1) := by decide +kernel
theorem dX6_init_37 : decode cX6_init 37 = .ok (.iconst 1, 1) := by decide +kernel
theorem dX6_init_38 : decode cX6_init 38 = .ok (.iadd, 1) := by decide +kernel
theorem dX6_init_39 : decode cX6_init 39 = .ok (.multianewarray 22 2, 4) := by decide +kernel
theorem dX6_init_43 : decode cX6_init 43 = .ok (.putfield 27, 3) := by decide +kernel
theorem dX6_init_46 : decode cX6_init 46 = .ok (.aload_n 0, 1) := by decide +kernel
theorem dX6_init_47 : decode cX6_init 47 = .ok (.bipush 6, 2) := by decide +kernel
theorem dX6_init_49 : decode cX6_init 49 = .ok (.newarray .int, 2) := by decide +kernel
theorem dX6_init_51 : decode cX6_init 51 = .ok (.putfield 30, 3) := by decide +kernel
theorem dX6_init_54 : decode cX6_init 54 = .ok (.return_, 1) := by decide +kernel
def fX6_init (i : Nat) (x1 : Int32) (n : Nat) (μ : Mem) : Option Mem :=
  bd (upI μ i 0 x1) (fun μ1 => bd (zr μ1 (i + 1)) (fun μ3 => b1 (fX7_init (i + 1) μ3) (fun μ5 => bd (mg (i + 1) μ3 μ5) (fun μ7 => bd (zrs μ7 (i + 3) (1 + 6)) (fun μ9 => bd (zrs μ9 (i + 10) (1 + 7)) (fun μ11 => bd (zr μ11 (i + 18)) (fun μ13 => some μ13)))))))
set_option maxHeartbeats 8000000 in
set_option maxRecDepth 100000 in
theorem i_X6 {l : Launch} {G : GG} {DS : List (Nat × Nat)} {B i n : Nat} {x1 : Int32} {E : State → Prop} {μ μo : Mem} (hE : ∀ U, E U → KX G U) (hd : ∀ r x, (LShares n)[r]? = some x → DS[i + r]? = some x) (hx1 : ¬ x1 + 1 < 0) (hx2 : (x1 + 1).toNatClampNeg = n) (hn : n ≤ 31) (h : fX6_init i x1 n μ = some μo) : Ini l yX6_init cX6_init 2 4 18 (5 + 42 + 6 + 6 * n + 7 + 7 * n + 6) G DS B i 19 E [.int x1] μ μo := by
  refine ini_of (by decide) rfl (Nat.le_of_ble_eq_true rfl) (fun p e s m args below meth c ls C hr hlk hin2 hok hl hH hS => ?_)
  have hx := C.1
  have hb := C.2.1
  unfold fX6_init at h
  have hH := hH.ent (Rem := [1, 2, 3, 4]) (hd 0 _ rfl) (by decide) (ft_rem (by decide +kernel) (by decide +kernel))
  have hS : FS (ωk G DS B i (i + 1) E (nf i [1, 2, 3, 4])) s s.heap [] := hS
  have C : Cx (ωk G DS B i (i + 1) E (nf i [1, 2, 3, 4])) p s m args c cX6_init 2 RX6 := Cx.ofk hok C
  obtain ⟨H, hHs⟩ : ∃ H, H = s.heap := ⟨_, rfl⟩
  rw [← hHs] at hH ⊢
  obtain ⟨locs, hlocs⟩ : ∃ locs : List Loc, locs = [] := ⟨_, rfl⟩
  rw [← hlocs] at hS ⊢
  have hS : FS (ωk G DS B i (i + 1) E (nf i [1, 2, 3, 4])) s H locs := by rw [hHs]; exact hS
  refine lv_aload_n hx hb dX6_init_0 rfl (lv_at hl 0 rfl) ?_
  refine k_obj (rest := []) C hl.1 wd_380 (Nat.le_of_ble_eq_true rfl) (Nat.le_of_ble_eq_true rfl) dX6_init_1 ?_
  refine lv_aload_n hx hb dX6_init_4 rfl (lv_at hl 0 rfl) ?_
  refine lv_iload_n hx hb dX6_init_5 rfl (lv_at hl 1 rfl) ?_
  have hq := bd_e h; clear h; obtain ⟨μ1, e2, h⟩ := hq
  refine k_put hin2 (μ' := upI μ i 0 x1) (N' := (nf i [1, 2, 3, 4])) (k := 0) (ty := .int) (rest := []) C hH hS ⟨Nat.le_refl _, by omega⟩ (hd 0 _ rfl) (by decide) rfl (show 0 < 6 by decide) rfl wd_385 rfl rfl rfl (fun _ hj => upI_ne hj) (fun _ _ _ => rfl) (fun x => fv_upI (by decide)) dX6_init_6 (fun H locs hH hS => ?_)
  replace hH : Hd (ωk G DS B i (i + 1) E (nf i [1, 2, 3, 4])) μ1 H := Hd.to e2 hH
  replace hS : FS (ωk G DS B i (i + 1) E (nf i [1, 2, 3, 4])) s H locs := hS
  replace C : Cx (ωk G DS B i (i + 1) E (nf i [1, 2, 3, 4])) p s m args c cX6_init 2 RX6 := Cx.ofk hok C
  refine lv_aload_n hx hb dX6_init_9 rfl (lv_at hl 0 rfl) ?_
  have hq := bd_e h; clear h; obtain ⟨μ3, e4, h⟩ := hq
  refine k_new (N' := ch (i + 1) (nf i [1, 2, 3, 4])) (ty := tyX7) (r := (RX7, TX7, 5)) (rest := [.ref (B + i)]) C hH hS (by omega) (hd 1 _ rfl) (by decide) rfl tyX7_ok (by decide +kernel) (fun k => ch_eq) (fun j k hj => ch_ne (Nat.ne_of_lt hj)) wd_381 wd_317 wd_107 (by simp only [rmc]; omega) (by simp only [rmc]; omega) dX6_init_10 (fun H hH hS => ?_)
  replace hH : Hd (ωk G DS B i (i + 2) E (ch (i + 1) (nf i [1, 2, 3, 4]))) μ3 H := Hd.to e4 hH
  refine lv_dup hx hb dX6_init_13 rfl ?_
  have hq := b1_e h; clear h; obtain ⟨μ5, e6, h⟩ := hq
  refine k_init (as := []) (rest := [.ref (B + (i + 1)), .ref (B + i)]) (N' := (nf i [1, 2, 3, 4])) (i_X7 hE (lay_sub (Lc := LState) 1 hd rfl) e6) hok (Cx.ofk hok C) hl.1 (by omega) hH (fun k => ch_eq) (fun j k hj => (ch_ne (Nat.ne_of_lt hj)).symm) (fun j k hj => nf_ne (Nat.ne_of_gt (Nat.lt_of_lt_of_le (by omega) hj))) hS rfl mw_X7_init rfl wd_319 wd_382 rfl (rmc_ok (by decide) (by decide)) (Nat.le_of_ble_eq_true rfl) ⟨by simp only [rmc]; omega, by simp only [rmc]; omega⟩ dX6_init_14 (fun H locs hH hS => ?_)
  have hq := bd_e h; clear h; obtain ⟨μ7, e8, h⟩ := hq
  replace hH : Hd (ωk G DS B i (i + 3) E (nf i [1, 2, 3, 4])) μ7 H := Hd.to e8 hH
  replace hS : FS (ωk G DS B i (i + 3) E (nf i [1, 2, 3, 4])) s H locs := hS
  replace C : Cx (ωk G DS B i (i + 3) E (nf i [1, 2, 3, 4])) p s m args c cX6_init 2 RX6 := Cx.ofk hok C
  refine k_putr hin2 (k := 1) (Rem := [2, 3, 4]) (ty := tyX6 1) (rest := []) C hH hS (hd 0 _ rfl) (by decide) rfl (show 1 < 6 by decide) rfl wd_386 rfl rfl rfl (by decide) rfl (by decide) (by omega) dX6_init_17 (fun H locs hH hS => ?_)
  replace hS : FS (ωk G DS B i (i + 3) E (nf i [2, 3, 4])) s H locs := hS
  replace C : Cx (ωk G DS B i (i + 3) E (nf i [2, 3, 4])) p s m args c cX6_init 2 RX6 := Cx.ofk hok C
  replace hH : Hd (ωk G DS B i (i + 3) E (nf i [2, 3, 4])) μ7 H := hH
  refine lv_aload_n hx hb dX6_init_20 rfl (lv_at hl 0 rfl) ?_
  refine lv_bipush (v := 6) hx hb dX6_init_21 (by decide) ?_
  refine lv_iload_n hx hb dX6_init_23 rfl (lv_at hl 1 rfl) ?_
  refine lv_iconst (v := 1) hx hb dX6_init_24 (by decide) ?_
  refine lv_iadd hx hb dX6_init_25 ?_
  have hq := bd_e h; clear h; obtain ⟨μ9, e10, h⟩ := hq
  refine k_multi (n := 6) (k := n) (rest := [.ref (B + i)]) hE C hH hS (by omega) (hd 3 _ rfl) (fun r hr => ?_) (fun j k hj => nf_ne (Nat.ne_of_gt (Nat.lt_of_lt_of_le (by omega) hj))) wd_383 (by decide) (by decide) hx1 hx2 (by decide) (by omega) (by simp only [rmc]; omega) (by simp only [rmc]; omega) dX6_init_26 (fun H hH hS => ?_)
  · rcases (show r = 0 ∨ r = 1 ∨ r = 2 ∨ r = 3 ∨ r = 4 ∨ r = 5 by omega) with rfl | rfl | rfl | rfl | rfl | rfl
    · exact (hd 4 _ rfl)
    · exact (hd 5 _ rfl)
    · exact (hd 6 _ rfl)
    · exact (hd 7 _ rfl)
    · exact (hd 8 _ rfl)
    · exact (hd 9 _ rfl)
  replace hH : Hd (ωk G DS B i (i + 10) E (nf i [2, 3, 4])) μ9 H := Hd.to e10 hH
  replace hS : FS (ωk G DS B i (i + 10) E (nf i [2, 3, 4])) s H locs := hS
  replace C : Cx (ωk G DS B i (i + 10) E (nf i [2, 3, 4])) p s m args c cX6_init 2 RX6 := Cx.ofk hok C
  refine k_putr hin2 (k := 2) (Rem := [3, 4]) (ty := tyX6 2) (rest := []) C hH hS (hd 0 _ rfl) (by decide) rfl (show 2 < 6 by decide) rfl wd_387 rfl rfl rfl (by decide) rfl (by decide) (by omega) dX6_init_30 (fun H locs hH hS => ?_)
  replace hS : FS (ωk G DS B i (i + 10) E (nf i [3, 4])) s H locs := hS
  replace C : Cx (ωk G DS B i (i + 10) E (nf i [3, 4])) p s m args c cX6_init 2 RX6 := Cx.ofk hok C
  replace hH : Hd (ωk G DS B i (i + 10) E (nf i [3, 4])) μ9 H := hH
  refine lv_aload_n hx hb dX6_init_33 rfl (lv_at hl 0 rfl) ?_
  refine lv_bipush (v := 7) hx hb dX6_init_34 (by decide) ?_
  refine lv_iload_n hx hb dX6_init_36 rfl (lv_at hl 1 rfl) ?_
  refine lv_iconst (v := 1) hx hb dX6_init_37 (by decide) ?_
  refine lv_iadd hx hb dX6_init_38 ?_
  have hq := bd_e h; clear h; obtain ⟨μ11, e12, h⟩ := hq
  refine k_multi (n := 7) (k := n) (rest := [.ref (B + i)]) hE C hH hS (by omega) (hd 10 _ rfl) (fun r hr => ?_) (fun j k hj => nf_ne (Nat.ne_of_gt (Nat.lt_of_lt_of_le (by omega) hj))) wd_383 (by decide) (by decide) hx1 hx2 (by decide) (by omega) (by simp only [rmc]; omega) (by simp only [rmc]; omega) dX6_init_39 (fun H hH hS => ?_)
  · rcases (show r = 0 ∨ r = 1 ∨ r = 2 ∨ r = 3 ∨ r = 4 ∨ r = 5 ∨ r = 6 by omega) with rfl | rfl | rfl | rfl | rfl | rfl | rfl
    · exact (hd 11 _ rfl)
    · exact (hd 12 _ rfl)
    · exact (hd 13 _ rfl)
    · exact (hd 14 _ rfl)
    · exact (hd 15 _ rfl)
    · exact (hd 16 _ rfl)
    · exact (hd 17 _ rfl)
  replace hH : Hd (ωk G DS B i (i + 18) E (nf i [3, 4])) μ11 H := Hd.to e12 hH
  replace hS : FS (ωk G DS B i (i + 18) E (nf i [3, 4])) s H locs := hS
  replace C : Cx (ωk G DS B i (i + 18) E (nf i [3, 4])) p s m args c cX6_init 2 RX6 := Cx.ofk hok C
  refine k_putr hin2 (k := 3) (Rem := [4]) (ty := tyX6 3) (rest := []) C hH hS (hd 0 _ rfl) (by decide) rfl (show 3 < 6 by decide) rfl wd_388 rfl rfl rfl (by decide) rfl (by decide) (by omega) dX6_init_43 (fun H locs hH hS => ?_)
  replace hS : FS (ωk G DS B i (i + 18) E (nf i [4])) s H locs := hS
  replace C : Cx (ωk G DS B i (i + 18) E (nf i [4])) p s m args c cX6_init 2 RX6 := Cx.ofk hok C
  replace hH : Hd (ωk G DS B i (i + 18) E (nf i [4])) μ11 H := hH
  refine lv_aload_n hx hb dX6_init_46 rfl (lv_at hl 0 rfl) ?_
  refine lv_bipush (v := 6) hx hb dX6_init_47 (by decide) ?_
  have hq := bd_e h; clear h; obtain ⟨μ13, e14, h⟩ := hq
  refine k_newa (atype := .int) (rest := [.ref (B + i)]) hE C hH hS (by omega) (hd 18 _ rfl) rfl (by decide) (by decide) wd_210 (by decide) (by decide) (by decide) (by simp only [rmc]; omega) (by simp only [rmc]; omega) dX6_init_49 (fun H hH hS => ?_)
  replace hH : Hd (ωk G DS B i (i + 19) E (nf i [4])) μ13 H := Hd.to e14 hH
  replace hS : FS (ωk G DS B i (i + 19) E (nf i [4])) s H locs := hS
  replace C : Cx (ωk G DS B i (i + 19) E (nf i [4])) p s m args c cX6_init 2 RX6 := Cx.ofk hok C
  refine k_putr hin2 (k := 4) (Rem := []) (ty := tyX6 4) (rest := []) C hH hS (hd 0 _ rfl) (by decide) rfl (show 4 < 6 by decide) rfl wd_389 rfl rfl rfl (by decide) rfl (by decide) (by omega) dX6_init_51 (fun H locs hH hS => ?_)
  replace hS : FS (ωk G DS B i (i + 19) E (nf i [])) s H locs := hS
  replace C : Cx (ωk G DS B i (i + 19) E (nf i [])) p s m args c cX6_init 2 RX6 := Cx.ofk hok C
  replace hH : Hd (ωk G DS B i (i + 19) E (nf i [])) μ13 H := hH
  cases h
  exact k_ret (len := 19) C hr hlk hH hS (by first | rfl | omega) (fun j k => nf_nil) (by first | rfl | omega) (by first | rfl | omega) dX6_init_54
