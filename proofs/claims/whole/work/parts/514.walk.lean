theorem dX12_undo_0 : decode cX12_undo 0 = .ok (.aload_n 0, 1) := by decide +kernel
theorem dX12_undo_1 : decode cX12_undo 1 = .ok (.getfield 260, 3) := by decide +kernel
theorem dX12_undo_4 : decode cX12_undo 4 = .ok (.ifCond .ne 5, 3) := by decide +kernel
theorem dX12_undo_7 : decode cX12_undo 7 = .ok (.iconst 0, 1) := by decide +kernel
theorem dX12_undo_8 : decode cX12_undo 8 = .ok (.ireturn, 1) := by decide +kernel
theorem dX12_undo_9 : decode cX12_undo 9 = .ok (.aload_n 0, 1) := by decide +kernel
theorem dX12_undo_10 : decode cX12_undo 10 = .ok (.dup, 1) := by decide +kernel
theorem dX12_undo_11 : decode cX12_undo 11 = .ok (.getfield 260, 3) := by decide +kernel
theorem dX12_undo_14 : decode cX12_undo 14 = .ok (.iconst 1, 1) := by decide +kernel
theorem dX12_undo_15 : decode cX12_undo 15 = .ok (.isub, 1) := by decide +kernel
theorem dX12_undo_16 : decode cX12_undo 16 = .ok (.putfield 260, 3) := by decide +kernel
theorem dX12_undo_19 : decode cX12_undo 19 = .ok (.iconst 0, 1) := by decide +kernel
theorem dX12_undo_20 : decode cX12_undo 20 = .ok (.istore_n 1, 1) := by decide +kernel
theorem dX12_undo_21 : decode cX12_undo 21 = .ok (.iload_n 1, 1) := by decide +kernel
theorem dX12_undo_22 : decode cX12_undo 22 = .ok (.bipush 39, 2) := by decide +kernel
theorem dX12_undo_24 : decode cX12_undo 24 = .ok (.if_icmp .ge 29, 3) := by decide +kernel
theorem dX12_undo_27 : decode cX12_undo 27 = .ok (.aload_n 0, 1) := by decide +kernel
theorem dX12_undo_28 : decode cX12_undo 28 = .ok (.getfield 110, 3) := by decide +kernel
theorem dX12_undo_31 : decode cX12_undo 31 = .ok (.iload_n 1, 1) := by decide +kernel
theorem dX12_undo_32 : decode cX12_undo 32 = .ok (.aload_n 0, 1) := by decide +kernel
theorem dX12_undo_33 : decode cX12_undo 33 = .ok (.getfield 122, 3) := by decide +kernel
theorem dX12_undo_36 : decode cX12_undo 36 = .ok (.bipush 39, 2) := by decide +kernel
theorem dX12_undo_38 : decode cX12_undo 38 = .ok (.aload_n 0, 1) := by decide +kernel
theorem dX12_undo_39 : decode cX12_undo 39 = .ok (.getfield 260, 3) := by decide +kernel
theorem dX12_undo_42 : decode cX12_undo 42 = .ok (.imul, 1) := by decide +kernel
theorem dX12_undo_43 : decode cX12_undo 43 = .ok (.iload_n 1, 1) := by decide +kernel
theorem dX12_undo_44 : decode cX12_undo 44 = .ok (.iadd, 1) := by decide +kernel
theorem dX12_undo_45 : decode cX12_undo 45 = .ok (.iaload, 1) := by decide +kernel
theorem dX12_undo_46 : decode cX12_undo 46 = .ok (.iastore, 1) := by decide +kernel
theorem dX12_undo_47 : decode cX12_undo 47 = .ok (.iinc 1 1, 3) := by decide +kernel
theorem dX12_undo_50 : decode cX12_undo 50 = .ok (.goto (-29), 3) := by decide +kernel
theorem dX12_undo_53 : decode cX12_undo 53 = .ok (.iconst 1, 1) := by decide +kernel
theorem dX12_undo_54 : decode cX12_undo 54 = .ok (.ireturn, 1) := by decide +kernel
theorem dX12_whose_0 : decode cX12_whose 0 = .ok (.iload_n 1, 1) := by decide +kernel
theorem dX12_whose_1 : decode cX12_whose 1 = .ok (.iconst 0, 1) := by decide +kernel
theorem dX12_whose_2 : decode cX12_whose 2 = .ok (.aload_n 0, 1) := by decide +kernel
theorem dX12_whose_3 : decode cX12_whose 3 = .ok (.getfield 263, 3) := by decide +kernel
theorem dX12_whose_6 : decode cX12_whose 6 = .ok (.invokestatic 313, 3) := by decide +kernel
theorem dX12_whose_9 : decode cX12_whose 9 = .ok (.ifCond .eq 12, 3) := by decide +kernel
theorem dX12_whose_12 : decode cX12_whose 12 = .ok (.iload_n 2, 1) := by decide +kernel
theorem dX12_whose_13 : decode cX12_whose 13 = .ok (.iconst 0, 1) := by decide +kernel
theorem dX12_whose_14 : decode cX12_whose 14 = .ok (.iconst 1, 1) := by decide +kernel
theorem dX12_whose_15 : decode cX12_whose 15 = .ok (.invokestatic 313, 3) := by decide +kernel
theorem dX12_whose_18 : decode cX12_whose 18 = .ok (.ifCond .ne 5, 3) := by decide +kernel
theorem dX12_whose_21 : decode cX12_whose 21 = .ok (.iconst (-1), 1) := by decide +kernel
theorem dX12_whose_22 : decode cX12_whose 22 = .ok (.ireturn, 1) := by decide +kernel
theorem dX12_whose_23 : decode cX12_whose 23 = .ok (.aload_n 0, 1) := by decide +kernel
theorem dX12_whose_24 : decode cX12_whose 24 = .ok (.iload_n 1, 1) := by decide +kernel
theorem dX12_whose_25 : decode cX12_whose 25 = .ok (.invokevirtual 468, 3) := by decide +kernel
theorem dX12_whose_28 : decode cX12_whose 28 = .ok (.istore_n 3, 1) := by decide +kernel
theorem dX12_whose_29 : decode cX12_whose 29 = .ok (.iload_n 2, 1) := by decide +kernel
theorem dX12_whose_30 : decode cX12_whose 30 = .ok (.ifCond .ne 10, 3) := by decide +kernel
theorem dX12_whose_33 : decode cX12_whose 33 = .ok (.iload_n 3, 1) := by decide +kernel
theorem dX12_whose_34 : decode cX12_whose 34 = .ok (.invokestatic 471, 3) := by decide +kernel
theorem dX12_whose_37 : decode cX12_whose 37 = .ok (.goto 4, 3) := by decide +kernel
theorem dX12_whose_40 : decode cX12_whose 40 = .ok (.iload_n 3, 1) := by decide +kernel
theorem dX12_whose_41 : decode cX12_whose 41 = .ok (.ireturn, 1) := by decide +kernel
theorem dX12_word_0 : decode cX12_word 0 = .ok (.lconst 0, 1) := by decide +kernel
theorem dX12_word_1 : decode cX12_word 1 = .ok (.iload_n 0, 1) := by decide +kernel
theorem dX12_word_2 : decode cX12_word 2 = .ok (.invokestatic 189, 3) := by decide +kernel
theorem dX12_word_5 : decode cX12_word 5 = .ok (.iload_n 1, 1) := by decide +kernel
theorem dX12_word_6 : decode cX12_word 6 = .ok (.invokestatic 189, 3) := by decide +kernel
theorem dX12_word_9 : decode cX12_word 9 = .ok (.iload_n 2, 1) := by decide +kernel
theorem dX12_word_10 : decode cX12_word 10 = .ok (.invokestatic 189, 3) := by decide +kernel
theorem dX12_word_13 : decode cX12_word 13 = .ok (.iload_n 3, 1) := by decide +kernel
theorem dX12_word_14 : decode cX12_word 14 = .ok (.invokestatic 189, 3) := by decide +kernel
theorem dX12_word_17 : decode cX12_word 17 = .ok (.iload 4, 2) := by decide +kernel
theorem dX12_word_19 : decode cX12_word 19 = .ok (.invokestatic 189, 3) := by decide +kernel
theorem dX12_word_22 : decode cX12_word 22 = .ok (.iload 5, 2) := by decide +kernel
theorem dX12_word_24 : decode cX12_word 24 = .ok (.invokestatic 189, 3) := by decide +kernel
theorem dX12_word_27 : decode cX12_word 27 = .ok (.iload 6, 2) := by decide +kernel
theorem dX12_word_29 : decode cX12_word 29 = .ok (.invokestatic 189, 3) := by decide +kernel
theorem dX12_word_32 : decode cX12_word 32 = .ok (.lreturn, 1) := by decide +kernel
theorem dX12_worst_0 : decode cX12_worst 0 = .ok (.iload_n 1, 1) := by decide +kernel
theorem dX12_worst_1 : decode cX12_worst 1 = .ok (.iconst 0, 1) := by decide +kernel
theorem dX12_worst_2 : decode cX12_worst 2 = .ok (.iconst 1, 1) := by decide +kernel
theorem dX12_worst_3 : decode cX12_worst 3 = .ok (.invokestatic 313, 3) := by decide +kernel
theorem dX12_worst_6 : decode cX12_worst 6 = .ok (.ifCond .ne 5, 3) := by decide +kernel
theorem dX12_worst_9 : decode cX12_worst 9 = .ok (.iconst (-1), 1) := by decide +kernel
theorem dX12_worst_10 : decode cX12_worst 10 = .ok (.ireturn, 1) := by decide +kernel
theorem dX12_worst_11 : decode cX12_worst 11 = .ok (.aload_n 0, 1) := by decide +kernel
theorem dX12_worst_12 : decode cX12_worst 12 = .ok (.invokevirtual 323, 3) := by decide +kernel
theorem dX12_worst_15 : decode cX12_worst 15 = .ok (.bipush (-2), 2) := by decide +kernel
theorem dX12_worst_17 : decode cX12_worst 17 = .ok (.istore_n 2, 1) := by decide +kernel
theorem dX12_worst_18 : decode cX12_worst 18 = .ok (.iconst 0, 1) := by decide +kernel
theorem dX12_worst_19 : decode cX12_worst 19 = .ok (.istore_n 3, 1) := by decide +kernel
theorem dX12_worst_20 : decode cX12_worst 20 = .ok (.iload_n 3, 1) := by decide +kernel
theorem dX12_worst_21 : decode cX12_worst 21 = .ok (.aload_n 0, 1) := by decide +kernel
theorem dX12_worst_22 : decode cX12_worst 22 = .ok (.invokevirtual 309, 3) := by decide +kernel
theorem dX12_worst_25 : decode cX12_worst 25 = .ok (.if_icmp .ge 28, 3) := by decide +kernel
theorem dX12_worst_28 : decode cX12_worst 28 = .ok (.iload_n 2, 1) := by decide +kernel
theorem dX12_worst_29 : decode cX12_worst 29 = .ok (.ifCond .lt 16, 3) := by decide +kernel
theorem dX12_worst_32 : decode cX12_worst 32 = .ok (.aload_n 0, 1) := by decide +kernel
theorem dX12_worst_33 : decode cX12_worst 33 = .ok (.iload_n 3, 1) := by decide +kernel
theorem dX12_worst_34 : decode cX12_worst 34 = .ok (.invokevirtual 358, 3) := by decide +kernel
theorem dX12_worst_37 : decode cX12_worst 37 = .ok (.aload_n 0, 1) := by decide +kernel
theorem dX12_worst_38 : decode cX12_worst 38 = .ok (.iload_n 2, 1) := by decide +kernel
theorem dX12_worst_39 : decode cX12_worst 39 = .ok (.invokevirtual 358, 3) := by decide +kernel
theorem dX12_worst_42 : decode cX12_worst 42 = .ok (.if_icmp .le 5, 3) := by decide +kernel
theorem dX12_worst_45 : decode cX12_worst 45 = .ok (.iload_n 3, 1) := by decide +kernel
theorem dX12_worst_46 : decode cX12_worst 46 = .ok (.istore_n 2, 1) := by decide +kernel
theorem dX12_worst_47 : decode cX12_worst 47 = .ok (.iinc 3 1, 3) := by decide +kernel
theorem dX12_worst_50 : decode cX12_worst 50 = .ok (.goto (-30), 3) := by decide +kernel
theorem dX12_worst_53 : decode cX12_worst 53 = .ok (.iload_n 2, 1) := by decide +kernel
theorem dX12_worst_54 : decode cX12_worst 54 = .ok (.ifCond .lt 7, 3) := by decide +kernel
theorem dX12_worst_57 : decode cX12_worst 57 = .ok (.iload_n 1, 1) := by decide +kernel
theorem dX12_worst_58 : decode cX12_worst 58 = .ok (.ifCond .ne 7, 3) := by decide +kernel
theorem dX12_worst_61 : decode cX12_worst 61 = .ok (.iload_n 2, 1) := by decide +kernel
theorem dX12_worst_62 : decode cX12_worst 62 = .ok (.goto 8, 3) := by decide +kernel
theorem dX12_worst_65 : decode cX12_worst 65 = .ok (.aload_n 0, 1) := by decide +kernel
theorem dX12_worst_66 : decode cX12_worst 66 = .ok (.iload_n 2, 1) := by decide +kernel
theorem dX12_worst_67 : decode cX12_worst 67 = .ok (.invokevirtual 358, 3) := by decide +kernel
theorem dX12_worst_70 : decode cX12_worst 70 = .ok (.ireturn, 1) := by decide +kernel
theorem dX12_year_0 : decode cX12_year 0 = .ok (.aload_n 0, 1) := by decide +kernel
theorem dX12_year_1 : decode cX12_year 1 = .ok (.iload_n 1, 1) := by decide +kernel
theorem dX12_year_2 : decode cX12_year 2 = .ok (.invokevirtual 371, 3) := by decide +kernel
theorem dX12_year_5 : decode cX12_year 5 = .ok (.ifCond .eq 20, 3) := by decide +kernel
theorem dX12_year_8 : decode cX12_year 8 = .ok (.iload_n 2, 1) := by decide +kernel
theorem dX12_year_9 : decode cX12_year 9 = .ok (.invokestatic 383, 3) := by decide +kernel
theorem dX12_year_12 : decode cX12_year 12 = .ok (.ifCond .eq 13, 3) := by decide +kernel
theorem dX12_year_15 : decode cX12_year 15 = .ok (.iload_n 3, 1) := by decide +kernel
theorem dX12_year_16 : decode cX12_year 16 = .ok (.iconst 1, 1) := by decide +kernel
theorem dX12_year_17 : decode cX12_year 17 = .ok (.bipush 20, 2) := by decide +kernel
theorem dX12_year_19 : decode cX12_year 19 = .ok (.invokestatic 313, 3) := by decide +kernel
theorem dX12_year_22 : decode cX12_year 22 = .ok (.ifCond .ne 5, 3) := by decide +kernel
theorem dX12_year_25 : decode cX12_year 25 = .ok (.iconst (-1), 1) := by decide +kernel
theorem dX12_year_26 : decode cX12_year 26 = .ok (.ireturn, 1) := by decide +kernel
theorem dX12_year_27 : decode cX12_year 27 = .ok (.iconst 0, 1) := by decide +kernel
theorem dX12_year_28 : decode cX12_year 28 = .ok (.istore 4, 2) := by decide +kernel
theorem dX12_year_30 : decode cX12_year 30 = .ok (.iconst 0, 1) := by decide +kernel
theorem dX12_year_31 : decode cX12_year 31 = .ok (.istore 5, 2) := by decide +kernel
theorem dX12_year_33 : decode cX12_year 33 = .ok (.iload 5, 2) := by decide +kernel
theorem dX12_year_35 : decode cX12_year 35 = .ok (.iload_n 3, 1) := by decide +kernel
theorem dX12_year_36 : decode cX12_year 36 = .ok (.if_icmp .ge 44, 3) := by decide +kernel
theorem dX12_year_39 : decode cX12_year 39 = .ok (.aload_n 0, 1) := by decide +kernel
theorem dX12_year_40 : decode cX12_year 40 = .ok (.invokevirtual 323, 3) := by decide +kernel
theorem dX12_year_43 : decode cX12_year 43 = .ok (.aload_n 0, 1) := by decide +kernel
theorem dX12_year_44 : decode cX12_year 44 = .ok (.dup, 1) := by decide +kernel
theorem dX12_year_45 : decode cX12_year 45 = .ok (.getfield 317, 3) := by decide +kernel
theorem dX12_year_48 : decode cX12_year 48 = .ok (.iload 5, 2) := by decide +kernel
theorem dX12_year_50 : decode cX12_year 50 = .ok (.iadd, 1) := by decide +kernel
theorem dX12_year_51 : decode cX12_year 51 = .ok (.putfield 317, 3) := by decide +kernel
theorem dX12_year_54 : decode cX12_year 54 = .ok (.aload_n 0, 1) := by decide +kernel
theorem dX12_year_55 : decode cX12_year 55 = .ok (.iload_n 2, 1) := by decide +kernel
theorem dX12_year_56 : decode cX12_year 56 = .ok (.invokevirtual 386, 3) := by decide +kernel
theorem dX12_year_59 : decode cX12_year 59 = .ok (.aload_n 0, 1) := by decide +kernel
theorem dX12_year_60 : decode cX12_year 60 = .ok (.getfield 113, 3) := by decide +kernel
theorem dX12_year_63 : decode cX12_year 63 = .ok (.bipush 12, 2) := by decide +kernel
theorem dX12_year_65 : decode cX12_year 65 = .ok (.iload_n 1, 1) := by decide +kernel
theorem dX12_year_66 : decode cX12_year 66 = .ok (.iadd, 1) := by decide +kernel
theorem dX12_year_67 : decode cX12_year 67 = .ok (.iaload, 1) := by decide +kernel
theorem dX12_year_68 : decode cX12_year 68 = .ok (.ifCond .le 6, 3) := by decide +kernel
theorem dX12_year_71 : decode cX12_year 71 = .ok (.iinc 4 1, 3) := by decide +kernel
theorem dX12_year_74 : decode cX12_year 74 = .ok (.iinc 5 1, 3) := by decide +kernel
theorem dX12_year_77 : decode cX12_year 77 = .ok (.goto (-44), 3) := by decide +kernel
theorem dX12_year_80 : decode cX12_year 80 = .ok (.iload 4, 2) := by decide +kernel
theorem dX12_year_82 : decode cX12_year 82 = .ok (.ireturn, 1) := by decide +kernel
section WK14
variable {p : Program} {l : Launch} {e : Env} {s : State} {m : MethodId} {args : Array Value} {below : List Frame} {meth : Method} {c : Code} {ω : WW}

set_option maxHeartbeats 4000000 in
set_option maxRecDepth 100000 in
theorem wX12_undo_s21 (hW : FWM ω) (C : Cx ω p s m args c cX12_undo 2 RX12) (hr : meth.sig.returnType = some .boolean) (hk : meth.locks = false) {rr : Int32} {μo : Mem} {x1 : Int32} {rec : Int32 → Mem → Option (Int32 × Mem)} (hrec : ∀ (z1 : Int32) (ν : Mem) (H : Heap) (locs : List Loc) (ls : Array Slot), Hd ω ν H → FS ω s H locs → lv_has ls 2 [(0, .ref (wB ω + 0)), (1, .int z1)] → rec z1 ν = some (rr, μo) → W p l e (rmd 1) s m args below meth c H locs 0 0 (MQ below (QR ω (some (.int rr)) μo) args s 0 0 (wA ω)) (F0 m 21 ls [])) {μ : Mem} {H : Heap} {locs : List Loc} {ls : Array Slot} (hH : Hd ω μ H) (hS : FS ω s H locs) (hl : lv_has ls 2 [(0, .ref (wB ω + 0)), (1, .int x1)]) (h : fX12_undo_s21 rec x1 μ = some (rr, μo)) : W p l e (rmd 1) s m args below meth c H locs 0 0 (MQ below (QR ω (some (.int rr)) μo) args s 0 0 (wA ω)) (F0 m 21 ls []) := by
  have hx := C.1
  have hb := C.2.1
  unfold fX12_undo_s21 at h
  refine lv_iload_n hx hb dX12_undo_21 rfl (lv_at hl 1 rfl) ?_
  refine lv_bipush (v := 39) hx hb dX12_undo_22 (by decide) ?_
  refine lv_icmp_ge (tgt := 53) hx hb dX12_undo_24 (by decide) (fun hc => ?_) (fun hc => ?_)
  · have h := ite_t hc h
    refine lv_iconst (v := 1) hx hb dX12_undo_53 (by decide) ?_
    exact h_zret (y := 1) C hr hk hH hS rfl (by cases h; rfl) dX12_undo_54
  · have h := ite_f hc h
    refine lv_aload_n hx hb dX12_undo_27 rfl (lv_at hl 0 rfl) ?_
    refine g_1234 (i := 31) C hH (jM_0 hW) rfl dX12_undo_28 ?_
    refine lv_iload_n hx hb dX12_undo_31 rfl (lv_at hl 1 rfl) ?_
    refine lv_aload_n hx hb dX12_undo_32 rfl (lv_at hl 0 rfl) ?_
    refine g_1241 (i := 35) C hH (jM_0 hW) rfl dX12_undo_33 ?_
    refine lv_bipush (v := 39) hx hb dX12_undo_36 (by decide) ?_
    refine lv_aload_n hx hb dX12_undo_38 rfl (lv_at hl 0 rfl) ?_
    refine g_1240 C hH (jM_0 hW) dX12_undo_39 ?_
    refine lv_imul hx hb dX12_undo_42 ?_
    refine lv_iload_n hx hb dX12_undo_43 rfl (lv_at hl 1 rfl) ?_
    refine lv_iadd hx hb dX12_undo_44 ?_
    obtain ⟨b3, h⟩ := gd_e h
    refine h_iald C hH (jM_35 hW).1 (jM_35 hW).2.1 b3 dX12_undo_45 ?_
    obtain ⟨b4, h⟩ := gd_e h
    obtain ⟨μ5, e6, h⟩ := bd_e h
    refine h_iast C hH hS (jM_31 hW).1 (jM_31 hW).2.1 b4 dX12_undo_46 (fun H locs hH hS => ?_)
    have hH := Hd.to e6 hH
    refine lv_iinc (v := x1 + 1) (lv' := [(1, .int (x1 + 1)), (0, .ref (wB ω + 0))]) hx hb dX12_undo_47 hl (k := 1) rfl rfl (by decide) rfl (fun ls hl => ?_)
    refine lv_goto (tgt := 21) hx hb dX12_undo_50 (by decide) ?_
    exact hrec _ _ H locs ls hH hS (lv_sub hl [1, 0] rfl) h
theorem wX12_undo_l21 (hW : FWM ω) (C : Cx ω p s m args c cX12_undo 2 RX12) (hr : meth.sig.returnType = some .boolean) (hk : meth.locks = false) {rr : Int32} {μo : Mem} : ∀ (n : Nat) (x1 : Int32) (μ : Mem) (H : Heap) (locs : List Loc) (ls : Array Slot), Hd ω μ H → FS ω s H locs → lv_has ls 2 [(0, .ref (wB ω + 0)), (1, .int x1)] → fX12_undo_l21 n x1 μ = some (rr, μo) → W p l e (rmd 1) s m args below meth c H locs 0 0 (MQ below (QR ω (some (.int rr)) μo) args s 0 0 (wA ω)) (F0 m 21 ls []) := by
  intro n
  induction n with
  | zero => intro x1 μ H locs ls hH hS hl h; cases h
  | succ n ih => intro x1 μ H locs ls hH hS hl h; exact wX12_undo_s21 hW C hr hk ih hH hS hl h
set_option maxHeartbeats 4000000 in
set_option maxRecDepth 100000 in
theorem wX12_undo_e (hW : FWM ω) (C : Cx ω p s m args c cX12_undo 2 RX12) (hr : meth.sig.returnType = some .boolean) (hk : meth.locks = false) {rr : Int32} {μo : Mem} {μ : Mem} {H : Heap} {locs : List Loc} {ls : Array Slot} (hH : Hd ω μ H) (hS : FS ω s H locs) (hl : lv_has ls 2 [(0, .ref (wB ω + 0))]) (h : fX12_undo μ = some (rr, μo)) : W p l e (rmd 1) s m args below meth c H locs 0 0 (MQ below (QR ω (some (.int rr)) μo) args s 0 0 (wA ω)) (F0 m 0 ls []) := by
  have hx := C.1
  have hb := C.2.1
  unfold fX12_undo at h
  refine lv_aload_n hx hb dX12_undo_0 rfl (lv_at hl 0 rfl) ?_
  refine g_1240 C hH (jM_0 hW) dX12_undo_1 ?_
  refine lv_if_ne (tgt := 9) hx hb dX12_undo_4 (by decide) (fun hc => ?_) (fun hc => ?_)
  · have h := ite_f hc h
    refine lv_aload_n hx hb dX12_undo_9 rfl (lv_at hl 0 rfl) ?_
    refine lv_dup hx hb dX12_undo_10 rfl ?_
    refine g_1240 C hH (jM_0 hW) dX12_undo_11 ?_
    refine lv_iconst (v := 1) hx hb dX12_undo_14 (by decide) ?_
    refine lv_isub hx hb dX12_undo_15 ?_
    obtain ⟨μ1, e2, h⟩ := bd_e h
    refine p_1240 C hH hS (jM_0 hW) dX12_undo_16 (fun H locs hH hS => ?_)
    have hH := Hd.to e2 hH
    refine lv_iconst (v := 0) hx hb dX12_undo_19 (by decide) ?_
    refine lv_istore_n (lv' := [(1, .int 0), (0, .ref (wB ω + 0))]) hx hb dX12_undo_20 rfl hl (by decide) rfl (fun ls hl => ?_)
    exact wX12_undo_l21 hW C hr hk FU _ _ H locs ls hH hS (lv_sub hl [1, 0] rfl) h
  · have h := ite_t hc h
    refine lv_iconst (v := 0) hx hb dX12_undo_7 (by decide) ?_
    exact h_zret (y := 0) C hr hk hH hS rfl (by cases h; rfl) dX12_undo_8
theorem c_X12_undo {l : Launch} {ω : WW} (hW : FWM ω) {μ : Mem} {rr : Int32} {μo : Mem} (h : fX12_undo μ = some (rr, μo)) : Con l yX12_undo cX12_undo 2 (some .boolean) 1 ω [.ref (wB ω + 0)] μ (some (.int rr)) μo :=
  con_of (by decide) (Nat.le_of_ble_eq_true rfl) (fun p e s m args below meth c ls C hr hk hl hH hS => wX12_undo_e hW C hr hk hH hS (lv_sub hl [0] rfl) h)
set_option maxHeartbeats 4000000 in
set_option maxRecDepth 100000 in
theorem wX12_whose_e (hW : FWM ω) (C : Cx ω p s m args c cX12_whose 4 RX12) (hr : meth.sig.returnType = some .int) (hk : meth.locks = false) {rr : Int32} {μ : Mem} {x1 : Int32} {x2 : Int32} {H : Heap} {locs : List Loc} {ls : Array Slot} (hH : Hd ω μ H) (hS : FS ω s H locs) (hl : lv_has ls 4 [(0, .ref (wB ω + 0)), (1, .int x1), (2, .int x2)]) (h : fX12_whose x1 x2 μ = some rr) : W p l e (rmd 4) s m args below meth c H locs 0 0 (MQ below (QR ω (some (.int rr)) μ) args s 0 0 (wA ω)) (F0 m 0 ls []) := by
  have hx := C.1
  have hb := C.2.1
  unfold fX12_whose at h
  refine lv_iload_n hx hb dX12_whose_0 rfl (lv_at hl 1 rfl) ?_
  refine lv_iconst (v := 0) hx hb dX12_whose_1 (by decide) ?_
  refine lv_aload_n hx hb dX12_whose_2 rfl (lv_at hl 0 rfl) ?_
  refine g_1250 C hH (jM_0 hW) dX12_whose_3 ?_
  obtain ⟨r2, e1, h⟩ := b1_e h
  refine cSi (as := [.int x1, .int 0, .int (μ.1 0 63)]) (rest := []) (c_X12_in e1) C hl.1 hH hS rfl wd_1506 mw_X12_in wd_1505 rfl (rm_ok (by decide) (by decide)) (Nat.le_of_ble_eq_true rfl) ⟨Nat.zero_le _, Nat.zero_le _⟩ dX12_whose_6 (fun H locs hH hS => ?_)
  refine lv_if_eq (tgt := 21) hx hb dX12_whose_9 (by decide) (fun hc => ?_) (fun hc => ?_)
  · have h := ite_t hc h
    refine lv_iconst (v := (-1)) hx hb dX12_whose_21 (by decide) ?_
    exact h_iret C hr hk hH hS rfl (by cases h; rfl) dX12_whose_22
  · have h := ite_f hc h
    refine lv_iload_n hx hb dX12_whose_12 rfl (lv_at hl 2 rfl) ?_
    refine lv_iconst (v := 0) hx hb dX12_whose_13 (by decide) ?_
    refine lv_iconst (v := 1) hx hb dX12_whose_14 (by decide) ?_
    obtain ⟨r4, e3, h⟩ := b1_e h
    refine cSi (as := [.int x2, .int 0, .int 1]) (rest := []) (c_X12_in e3) C hl.1 hH hS rfl wd_1506 mw_X12_in wd_1505 rfl (rm_ok (by decide) (by decide)) (Nat.le_of_ble_eq_true rfl) ⟨Nat.zero_le _, Nat.zero_le _⟩ dX12_whose_15 (fun H locs hH hS => ?_)
    refine lv_if_ne (tgt := 23) hx hb dX12_whose_18 (by decide) (fun hc => ?_) (fun hc => ?_)
    · have h := ite_f hc h
      refine lv_aload_n hx hb dX12_whose_23 rfl (lv_at hl 0 rfl) ?_
      refine lv_iload_n hx hb dX12_whose_24 rfl (lv_at hl 1 rfl) ?_
      obtain ⟨r6, e5, h⟩ := b1_e h
      refine cVi (as := [.int x1]) (rest := []) (c_X12_whoseBits hW e5) C hl.1 hH hS rfl (jM_0 hW) rfl wd_93 wd_1814 mw_X12_whoseBits wd_1812 rfl (rm_ok (by decide) (by decide)) (Nat.le_of_ble_eq_true rfl) ⟨Nat.zero_le _, Nat.zero_le _⟩ (by decide) dX12_whose_25 (fun H locs hH hS => ?_)
      refine lv_istore_n (lv' := [(3, .int r6), (0, .ref (wB ω + 0)), (1, .int x1), (2, .int x2)]) hx hb dX12_whose_28 rfl hl (by decide) rfl (fun ls hl => ?_)
      refine lv_iload_n hx hb dX12_whose_29 rfl (lv_at hl 3 rfl) ?_
      refine lv_if_ne (tgt := 40) hx hb dX12_whose_30 (by decide) (fun hc => ?_) (fun hc => ?_)
      · have h := ite_f hc h
        refine lv_iload_n hx hb dX12_whose_40 rfl (lv_at hl 0 rfl) ?_
        exact h_iret C hr hk hH hS rfl (by cases h; rfl) dX12_whose_41
      · have h := ite_t hc h
        refine lv_iload_n hx hb dX12_whose_33 rfl (lv_at hl 0 rfl) ?_
        obtain ⟨r8, e7, h⟩ := b1_e h
        refine cSi (as := [.int r6]) (rest := []) (c_X12_bits e7) C hl.1 hH hS rfl wd_1821 mw_X12_bits wd_1820 rfl (rm_ok (by decide) (by decide)) (Nat.le_of_ble_eq_true rfl) ⟨Nat.zero_le _, Nat.zero_le _⟩ dX12_whose_34 (fun H locs hH hS => ?_)
        refine lv_goto (tgt := 41) hx hb dX12_whose_37 (by decide) ?_
        exact h_iret C hr hk hH hS rfl (by cases h; rfl) dX12_whose_41
    · have h := ite_t hc h
      refine lv_iconst (v := (-1)) hx hb dX12_whose_21 (by decide) ?_
      exact h_iret C hr hk hH hS rfl (by cases h; rfl) dX12_whose_22
theorem c_X12_whose {l : Launch} {ω : WW} {x1 : Int32} {x2 : Int32} (hW : FWM ω) {μ : Mem} {rr : Int32} (h : fX12_whose x1 x2 μ = some rr) : Con l yX12_whose cX12_whose 4 (some .int) 4 ω [.ref (wB ω + 0), .int x1, .int x2] μ (some (.int rr)) μ :=
  con_of (by decide) (Nat.le_of_ble_eq_true rfl) (fun p e s m args below meth c ls C hr hk hl hH hS => wX12_whose_e hW C hr hk hH hS (lv_sub hl [0, 1, 2] rfl) h)
set_option maxHeartbeats 4000000 in
set_option maxRecDepth 100000 in
theorem wX12_word_e (C : Cx ω p s m args c cX12_word 7 RX12) (hr : meth.sig.returnType = some .long) (hk : meth.locks = false) {rr : Int64} {μ : Mem} {x0 : Int32} {x1 : Int32} {x2 : Int32} {x3 : Int32} {x4 : Int32} {x5 : Int32} {x6 : Int32} {H : Heap} {locs : List Loc} {ls : Array Slot} (hH : Hd ω μ H) (hS : FS ω s H locs) (hl : lv_has ls 7 [(0, .int x0), (1, .int x1), (2, .int x2), (3, .int x3), (4, .int x4), (5, .int x5), (6, .int x6)]) (h : fX12_word x0 x1 x2 x3 x4 x5 x6 = some rr) : W p l e (rmd 2) s m args below meth c H locs 0 0 (MQ below (QR ω (some (.long rr)) μ) args s 0 0 (wA ω)) (F0 m 0 ls []) := by
  have hx := C.1
  have hb := C.2.1
  unfold fX12_word at h
  refine lv_lconst (v := 0) hx hb dX12_word_0 (by decide) ?_
  refine lv_iload_n hx hb dX12_word_1 rfl (lv_at hl 0 rfl) ?_
  obtain ⟨r2, e1, h⟩ := b1_e h
  refine cSl (as := [.long 0, .int x0]) (rest := []) (c_X12_appends e1) C hl.1 hH hS rfl wd_1173 mw_X12_appends wd_1172 rfl (rm_ok (by decide) (by decide)) (Nat.le_of_ble_eq_true rfl) ⟨Nat.zero_le _, Nat.zero_le _⟩ dX12_word_2 (fun H locs hH hS => ?_)
  refine lv_iload_n hx hb dX12_word_5 rfl (lv_at hl 1 rfl) ?_
  obtain ⟨r4, e3, h⟩ := b1_e h
  refine cSl (as := [.long r2, .int x1]) (rest := []) (c_X12_appends e3) C hl.1 hH hS rfl wd_1173 mw_X12_appends wd_1172 rfl (rm_ok (by decide) (by decide)) (Nat.le_of_ble_eq_true rfl) ⟨Nat.zero_le _, Nat.zero_le _⟩ dX12_word_6 (fun H locs hH hS => ?_)
  refine lv_iload_n hx hb dX12_word_9 rfl (lv_at hl 2 rfl) ?_
  obtain ⟨r6, e5, h⟩ := b1_e h
  refine cSl (as := [.long r4, .int x2]) (rest := []) (c_X12_appends e5) C hl.1 hH hS rfl wd_1173 mw_X12_appends wd_1172 rfl (rm_ok (by decide) (by decide)) (Nat.le_of_ble_eq_true rfl) ⟨Nat.zero_le _, Nat.zero_le _⟩ dX12_word_10 (fun H locs hH hS => ?_)
  refine lv_iload_n hx hb dX12_word_13 rfl (lv_at hl 3 rfl) ?_
  obtain ⟨r8, e7, h⟩ := b1_e h
  refine cSl (as := [.long r6, .int x3]) (rest := []) (c_X12_appends e7) C hl.1 hH hS rfl wd_1173 mw_X12_appends wd_1172 rfl (rm_ok (by decide) (by decide)) (Nat.le_of_ble_eq_true rfl) ⟨Nat.zero_le _, Nat.zero_le _⟩ dX12_word_14 (fun H locs hH hS => ?_)
  refine lv_iload hx hb dX12_word_17 (lv_at hl 4 rfl) ?_
  obtain ⟨r10, e9, h⟩ := b1_e h
  refine cSl (as := [.long r8, .int x4]) (rest := []) (c_X12_appends e9) C hl.1 hH hS rfl wd_1173 mw_X12_appends wd_1172 rfl (rm_ok (by decide) (by decide)) (Nat.le_of_ble_eq_true rfl) ⟨Nat.zero_le _, Nat.zero_le _⟩ dX12_word_19 (fun H locs hH hS => ?_)
  refine lv_iload hx hb dX12_word_22 (lv_at hl 5 rfl) ?_
  obtain ⟨r12, e11, h⟩ := b1_e h
  refine cSl (as := [.long r10, .int x5]) (rest := []) (c_X12_appends e11) C hl.1 hH hS rfl wd_1173 mw_X12_appends wd_1172 rfl (rm_ok (by decide) (by decide)) (Nat.le_of_ble_eq_true rfl) ⟨Nat.zero_le _, Nat.zero_le _⟩ dX12_word_24 (fun H locs hH hS => ?_)
  refine lv_iload hx hb dX12_word_27 (lv_at hl 6 rfl) ?_
  obtain ⟨r14, e13, h⟩ := b1_e h
  refine cSl (as := [.long r12, .int x6]) (rest := []) (c_X12_appends e13) C hl.1 hH hS rfl wd_1173 mw_X12_appends wd_1172 rfl (rm_ok (by decide) (by decide)) (Nat.le_of_ble_eq_true rfl) ⟨Nat.zero_le _, Nat.zero_le _⟩ dX12_word_29 (fun H locs hH hS => ?_)
  exact h_lret C hr hk hH hS (by cases h; rfl) dX12_word_32
theorem c_X12_word {l : Launch} {ω : WW} {x0 : Int32} {x1 : Int32} {x2 : Int32} {x3 : Int32} {x4 : Int32} {x5 : Int32} {x6 : Int32} {μ : Mem} {rr : Int64} (h : fX12_word x0 x1 x2 x3 x4 x5 x6 = some rr) : Con l yX12_word cX12_word 7 (some .long) 2 ω [.int x0, .int x1, .int x2, .int x3, .int x4, .int x5, .int x6] μ (some (.long rr)) μ :=
  con_of (by decide) (Nat.le_of_ble_eq_true rfl) (fun p e s m args below meth c ls C hr hk hl hH hS => wX12_word_e C hr hk hH hS (lv_sub hl [0, 1, 2, 3, 4, 5, 6] rfl) h)
set_option maxHeartbeats 4000000 in
set_option maxRecDepth 100000 in
theorem wX12_worst_s20 (hW : FWM ω) (C : Cx ω p s m args c cX12_worst 4 RX12) (hr : meth.sig.returnType = some .int) (hk : meth.locks = false) {rr : Int32} {μo : Mem} {x1 : Int32} {x2 : Int32} {x3 : Int32} {rec : Int32 → Int32 → Mem → Option (Int32 × Mem)} (hrec : ∀ (z2 : Int32) (z3 : Int32) (ν : Mem) (H : Heap) (locs : List Loc) (ls : Array Slot), Hd ω ν H → FS ω s H locs → lv_has ls 4 [(0, .ref (wB ω + 0)), (1, .int x1), (2, .int z2), (3, .int z3)] → rec z2 z3 ν = some (rr, μo) → W p l e (rmd 5) s m args below meth c H locs 0 0 (MQ below (QR ω (some (.int rr)) μo) args s 0 0 (wA ω)) (F0 m 20 ls [])) {K : Int32 → Mem → Option (Int32 × Mem)} (hK : ∀ (z2 : Int32) (ν : Mem) (H : Heap) (locs : List Loc) (ls : Array Slot), Hd ω ν H → FS ω s H locs → lv_has ls 4 [(0, .ref (wB ω + 0)), (1, .int x1), (2, .int z2)] → K z2 ν = some (rr, μo) → W p l e (rmd 5) s m args below meth c H locs 0 0 (MQ below (QR ω (some (.int rr)) μo) args s 0 0 (wA ω)) (F0 m 53 ls [])) {μ : Mem} {H : Heap} {locs : List Loc} {ls : Array Slot} (hH : Hd ω μ H) (hS : FS ω s H locs) (hl : lv_has ls 4 [(0, .ref (wB ω + 0)), (1, .int x1), (2, .int x2), (3, .int x3)]) (h : fX12_worst_s20 rec K x2 x3 μ = some (rr, μo)) : W p l e (rmd 5) s m args below meth c H locs 0 0 (MQ below (QR ω (some (.int rr)) μo) args s 0 0 (wA ω)) (F0 m 20 ls []) := by
  have hx := C.1
  have hb := C.2.1
  unfold fX12_worst_s20 at h
  refine lv_iload_n hx hb dX12_worst_20 rfl (lv_at hl 3 rfl) ?_
  refine lv_aload_n hx hb dX12_worst_21 rfl (lv_at hl 0 rfl) ?_
  obtain ⟨r6, e5, h⟩ := b1_e h
  refine cVi (as := []) (rest := [.int x3]) (c_X12_many hW e5) C hl.1 hH hS rfl (jM_0 hW) rfl wd_31 wd_1182 mw_X12_many wd_1180 rfl (rm_ok (by decide) (by decide)) (Nat.le_of_ble_eq_true rfl) ⟨Nat.zero_le _, Nat.zero_le _⟩ (by decide) dX12_worst_22 (fun H locs hH hS => ?_)
  refine lv_icmp_ge (tgt := 53) hx hb dX12_worst_25 (by decide) (fun hc => ?_) (fun hc => ?_)
  · have h := ite_t hc h
    exact hK _ _ H locs ls hH hS (lv_sub hl [0, 1, 2] rfl) h
  · have h := ite_f hc h
    refine lv_iload_n hx hb dX12_worst_28 rfl (lv_at hl 2 rfl) ?_
    refine lv_if_lt (tgt := 45) hx hb dX12_worst_29 (by decide) (fun hc => ?_) (fun hc => ?_)
    · have h := ite_t hc h
      refine lv_iload_n hx hb dX12_worst_45 rfl (lv_at hl 3 rfl) ?_
      refine lv_istore_n (lv' := [(2, .int x3), (0, .ref (wB ω + 0)), (1, .int x1), (3, .int x3)]) hx hb dX12_worst_46 rfl hl (by decide) rfl (fun ls hl => ?_)
      refine lv_iinc (v := x3 + 1) (lv' := [(3, .int (x3 + 1)), (2, .int x3), (0, .ref (wB ω + 0)), (1, .int x1)]) hx hb dX12_worst_47 hl (k := 3) rfl rfl (by decide) rfl (fun ls hl => ?_)
      refine lv_goto (tgt := 20) hx hb dX12_worst_50 (by decide) ?_
      exact hrec _ _ _ H locs ls hH hS (lv_sub hl [2, 3, 1, 0] rfl) h
    · have h := ite_f hc h
      refine lv_aload_n hx hb dX12_worst_32 rfl (lv_at hl 0 rfl) ?_
      refine lv_iload_n hx hb dX12_worst_33 rfl (lv_at hl 3 rfl) ?_
      obtain ⟨r9, μ8, e7, h⟩ := b2_e h
      refine cVi (as := [.int x3]) (rest := []) (c_X12_fadesOf hW e7) C hl.1 hH hS rfl (jM_0 hW) rfl wd_61 wd_1541 mw_X12_fadesOf wd_1539 rfl (rm_ok (by decide) (by decide)) (Nat.le_of_ble_eq_true rfl) ⟨Nat.zero_le _, Nat.zero_le _⟩ (by decide) dX12_worst_34 (fun H locs hH hS => ?_)
      refine lv_aload_n hx hb dX12_worst_37 rfl (lv_at hl 0 rfl) ?_
      refine lv_iload_n hx hb dX12_worst_38 rfl (lv_at hl 2 rfl) ?_
      obtain ⟨r12, μ11, e10, h⟩ := b2_e h
      refine cVi (as := [.int x2]) (rest := [.int r9]) (c_X12_fadesOf hW e10) C hl.1 hH hS rfl (jM_0 hW) rfl wd_61 wd_1541 mw_X12_fadesOf wd_1539 rfl (rm_ok (by decide) (by decide)) (Nat.le_of_ble_eq_true rfl) ⟨Nat.zero_le _, Nat.zero_le _⟩ (by decide) dX12_worst_39 (fun H locs hH hS => ?_)
      refine lv_icmp_le (tgt := 47) hx hb dX12_worst_42 (by decide) (fun hc => ?_) (fun hc => ?_)
      · have h := ite_t hc h
        refine lv_iinc (v := x3 + 1) (lv' := [(3, .int (x3 + 1)), (0, .ref (wB ω + 0)), (1, .int x1), (2, .int x2)]) hx hb dX12_worst_47 hl (k := 3) rfl rfl (by decide) rfl (fun ls hl => ?_)
        refine lv_goto (tgt := 20) hx hb dX12_worst_50 (by decide) ?_
        exact hrec _ _ _ H locs ls hH hS (lv_sub hl [1, 2, 3, 0] rfl) h
      · have h := ite_f hc h
        refine lv_iload_n hx hb dX12_worst_45 rfl (lv_at hl 3 rfl) ?_
        refine lv_istore_n (lv' := [(2, .int x3), (0, .ref (wB ω + 0)), (1, .int x1), (3, .int x3)]) hx hb dX12_worst_46 rfl hl (by decide) rfl (fun ls hl => ?_)
        refine lv_iinc (v := x3 + 1) (lv' := [(3, .int (x3 + 1)), (2, .int x3), (0, .ref (wB ω + 0)), (1, .int x1)]) hx hb dX12_worst_47 hl (k := 3) rfl rfl (by decide) rfl (fun ls hl => ?_)
        refine lv_goto (tgt := 20) hx hb dX12_worst_50 (by decide) ?_
        exact hrec _ _ _ H locs ls hH hS (lv_sub hl [2, 3, 1, 0] rfl) h
theorem wX12_worst_l20 (hW : FWM ω) (C : Cx ω p s m args c cX12_worst 4 RX12) (hr : meth.sig.returnType = some .int) (hk : meth.locks = false) {rr : Int32} {μo : Mem} {x1 : Int32} {K : Int32 → Mem → Option (Int32 × Mem)} (hK : ∀ (z2 : Int32) (ν : Mem) (H : Heap) (locs : List Loc) (ls : Array Slot), Hd ω ν H → FS ω s H locs → lv_has ls 4 [(0, .ref (wB ω + 0)), (1, .int x1), (2, .int z2)] → K z2 ν = some (rr, μo) → W p l e (rmd 5) s m args below meth c H locs 0 0 (MQ below (QR ω (some (.int rr)) μo) args s 0 0 (wA ω)) (F0 m 53 ls [])) : ∀ (n : Nat) (x2 : Int32) (x3 : Int32) (μ : Mem) (H : Heap) (locs : List Loc) (ls : Array Slot), Hd ω μ H → FS ω s H locs → lv_has ls 4 [(0, .ref (wB ω + 0)), (1, .int x1), (2, .int x2), (3, .int x3)] → fX12_worst_l20 K n x2 x3 μ = some (rr, μo) → W p l e (rmd 5) s m args below meth c H locs 0 0 (MQ below (QR ω (some (.int rr)) μo) args s 0 0 (wA ω)) (F0 m 20 ls []) := by
  intro n
  induction n with
  | zero => intro x2 x3 μ H locs ls hH hS hl h; cases h
  | succ n ih => intro x2 x3 μ H locs ls hH hS hl h; exact wX12_worst_s20 hW C hr hk ih hK hH hS hl h
set_option maxHeartbeats 4000000 in
set_option maxRecDepth 100000 in
theorem wX12_worst_e (hW : FWM ω) (C : Cx ω p s m args c cX12_worst 4 RX12) (hr : meth.sig.returnType = some .int) (hk : meth.locks = false) {rr : Int32} {μo : Mem} {x1 : Int32} {μ : Mem} {H : Heap} {locs : List Loc} {ls : Array Slot} (hH : Hd ω μ H) (hS : FS ω s H locs) (hl : lv_has ls 4 [(0, .ref (wB ω + 0)), (1, .int x1)]) (h : fX12_worst x1 μ = some (rr, μo)) : W p l e (rmd 5) s m args below meth c H locs 0 0 (MQ below (QR ω (some (.int rr)) μo) args s 0 0 (wA ω)) (F0 m 0 ls []) := by
  have hx := C.1
  have hb := C.2.1
  unfold fX12_worst at h
  refine lv_iload_n hx hb dX12_worst_0 rfl (lv_at hl 1 rfl) ?_
  refine lv_iconst (v := 0) hx hb dX12_worst_1 (by decide) ?_
  refine lv_iconst (v := 1) hx hb dX12_worst_2 (by decide) ?_
  obtain ⟨r2, e1, h⟩ := b1_e h
  refine cSi (as := [.int x1, .int 0, .int 1]) (rest := []) (c_X12_in e1) C hl.1 hH hS rfl wd_1506 mw_X12_in wd_1505 rfl (rm_ok (by decide) (by decide)) (Nat.le_of_ble_eq_true rfl) ⟨Nat.zero_le _, Nat.zero_le _⟩ dX12_worst_3 (fun H locs hH hS => ?_)
  refine lv_if_ne (tgt := 11) hx hb dX12_worst_6 (by decide) (fun hc => ?_) (fun hc => ?_)
  · have h := ite_f hc h
    refine lv_aload_n hx hb dX12_worst_11 rfl (lv_at hl 0 rfl) ?_
    obtain ⟨μ4, e3, h⟩ := b1_e h
    refine cVv (as := []) (rest := []) (c_X12_copies hW e3) C hl.1 hH hS rfl (jM_0 hW) rfl wd_54 wd_1510 mw_X12_copies wd_1508 rfl (rm_ok (by decide) (by decide)) (Nat.le_of_ble_eq_true rfl) ⟨Nat.zero_le _, Nat.zero_le _⟩ (by decide) dX12_worst_12 (fun H locs hH hS => ?_)
    refine lv_bipush (v := (-2)) hx hb dX12_worst_15 (by decide) ?_
    refine lv_istore_n (lv' := [(2, .int (-2)), (0, .ref (wB ω + 0)), (1, .int x1)]) hx hb dX12_worst_17 rfl hl (by decide) rfl (fun ls hl => ?_)
    refine lv_iconst (v := 0) hx hb dX12_worst_18 (by decide) ?_
    refine lv_istore_n (lv' := [(3, .int 0), (2, .int (-2)), (0, .ref (wB ω + 0)), (1, .int x1)]) hx hb dX12_worst_19 rfl hl (by decide) rfl (fun ls hl => ?_)
    refine wX12_worst_l20 hW C hr hk (fun y13 μ14 H locs ls hH hS hl h => ?_) FU _ _ _ H locs ls hH hS (lv_sub hl [2, 3, 1, 0] rfl) h
    refine lv_iload_n hx hb dX12_worst_53 rfl (lv_at hl 2 rfl) ?_
    refine lv_if_lt (tgt := 61) hx hb dX12_worst_54 (by decide) (fun hc => ?_) (fun hc => ?_)
    · have h := ite_t hc h
      refine lv_iload_n hx hb dX12_worst_61 rfl (lv_at hl 2 rfl) ?_
      refine lv_goto (tgt := 70) hx hb dX12_worst_62 (by decide) ?_
      exact h_iret C hr hk hH hS rfl (by cases h; rfl) dX12_worst_70
    · have h := ite_f hc h
      refine lv_iload_n hx hb dX12_worst_57 rfl (lv_at hl 1 rfl) ?_
      refine lv_if_ne (tgt := 65) hx hb dX12_worst_58 (by decide) (fun hc => ?_) (fun hc => ?_)
      · have h := ite_f hc h
        refine lv_aload_n hx hb dX12_worst_65 rfl (lv_at hl 0 rfl) ?_
        refine lv_iload_n hx hb dX12_worst_66 rfl (lv_at hl 2 rfl) ?_
        obtain ⟨r17, μ16, e15, h⟩ := b2_e h
        refine cVi (as := [.int y13]) (rest := []) (c_X12_fadesOf hW e15) C hl.1 hH hS rfl (jM_0 hW) rfl wd_61 wd_1541 mw_X12_fadesOf wd_1539 rfl (rm_ok (by decide) (by decide)) (Nat.le_of_ble_eq_true rfl) ⟨Nat.zero_le _, Nat.zero_le _⟩ (by decide) dX12_worst_67 (fun H locs hH hS => ?_)
        exact h_iret C hr hk hH hS rfl (by cases h; rfl) dX12_worst_70
      · have h := ite_t hc h
        refine lv_iload_n hx hb dX12_worst_61 rfl (lv_at hl 2 rfl) ?_
        refine lv_goto (tgt := 70) hx hb dX12_worst_62 (by decide) ?_
        exact h_iret C hr hk hH hS rfl (by cases h; rfl) dX12_worst_70
  · have h := ite_t hc h
    refine lv_iconst (v := (-1)) hx hb dX12_worst_9 (by decide) ?_
    exact h_iret C hr hk hH hS rfl (by cases h; rfl) dX12_worst_10
theorem c_X12_worst {l : Launch} {ω : WW} {x1 : Int32} (hW : FWM ω) {μ : Mem} {rr : Int32} {μo : Mem} (h : fX12_worst x1 μ = some (rr, μo)) : Con l yX12_worst cX12_worst 4 (some .int) 5 ω [.ref (wB ω + 0), .int x1] μ (some (.int rr)) μo :=
  con_of (by decide) (Nat.le_of_ble_eq_true rfl) (fun p e s m args below meth c ls C hr hk hl hH hS => wX12_worst_e hW C hr hk hH hS (lv_sub hl [0, 1] rfl) h)
set_option maxHeartbeats 4000000 in
set_option maxRecDepth 100000 in
theorem wX12_year_s33 (hW : FWM ω) (C : Cx ω p s m args c cX12_year 6 RX12) (hr : meth.sig.returnType = some .int) (hk : meth.locks = false) {rr : Int32} {μo : Mem} {x1 : Int32} {x2 : Int32} {x3 : Int32} {x4 : Int32} {x5 : Int32} {rec : Int32 → Int32 → Mem → Option (Int32 × Mem)} (hrec : ∀ (z4 : Int32) (z5 : Int32) (ν : Mem) (H : Heap) (locs : List Loc) (ls : Array Slot), Hd ω ν H → FS ω s H locs → lv_has ls 6 [(0, .ref (wB ω + 0)), (1, .int x1), (2, .int x2), (3, .int x3), (4, .int z4), (5, .int z5)] → rec z4 z5 ν = some (rr, μo) → W p l e (rmd 8) s m args below meth c H locs 0 0 (MQ below (QR ω (some (.int rr)) μo) args s 0 0 (wA ω)) (F0 m 33 ls [])) {μ : Mem} {H : Heap} {locs : List Loc} {ls : Array Slot} (hH : Hd ω μ H) (hS : FS ω s H locs) (hl : lv_has ls 6 [(0, .ref (wB ω + 0)), (1, .int x1), (2, .int x2), (3, .int x3), (4, .int x4), (5, .int x5)]) (h : fX12_year_s33 rec x1 x2 x3 x4 x5 μ = some (rr, μo)) : W p l e (rmd 8) s m args below meth c H locs 0 0 (MQ below (QR ω (some (.int rr)) μo) args s 0 0 (wA ω)) (F0 m 33 ls []) := by
  have hx := C.1
  have hb := C.2.1
  unfold fX12_year_s33 at h
  refine lv_iload hx hb dX12_year_33 (lv_at hl 5 rfl) ?_
  refine lv_iload_n hx hb dX12_year_35 rfl (lv_at hl 3 rfl) ?_
  refine lv_icmp_ge (tgt := 80) hx hb dX12_year_36 (by decide) (fun hc => ?_) (fun hc => ?_)
  · have h := ite_t hc h
    refine lv_iload hx hb dX12_year_80 (lv_at hl 4 rfl) ?_
    exact h_iret C hr hk hH hS rfl (by cases h; rfl) dX12_year_82
  · have h := ite_f hc h
    refine lv_aload_n hx hb dX12_year_39 rfl (lv_at hl 0 rfl) ?_
    obtain ⟨μ8, e7, h⟩ := b1_e h
    refine cVv (as := []) (rest := []) (c_X12_copies hW e7) C hl.1 hH hS rfl (jM_0 hW) rfl wd_54 wd_1510 mw_X12_copies wd_1508 rfl (rm_ok (by decide) (by decide)) (Nat.le_of_ble_eq_true rfl) ⟨Nat.zero_le _, Nat.zero_le _⟩ (by decide) dX12_year_40 (fun H locs hH hS => ?_)
    refine lv_aload_n hx hb dX12_year_43 rfl (lv_at hl 0 rfl) ?_
    refine lv_dup hx hb dX12_year_44 rfl ?_
    refine g_1236 C hH (jM_0 hW) dX12_year_45 ?_
    refine lv_iload hx hb dX12_year_48 (lv_at hl 5 rfl) ?_
    refine lv_iadd hx hb dX12_year_50 ?_
    obtain ⟨μ9, e10, h⟩ := bd_e h
    refine p_1236 C hH hS (jM_0 hW) dX12_year_51 (fun H locs hH hS => ?_)
    have hH := Hd.to e10 hH
    refine lv_aload_n hx hb dX12_year_54 rfl (lv_at hl 0 rfl) ?_
    refine lv_iload_n hx hb dX12_year_55 rfl (lv_at hl 2 rfl) ?_
    obtain ⟨μ12, e11, h⟩ := b1_e h
    refine cVv (as := [.int x2]) (rest := []) (c_X12_goes hW e11) C hl.1 hH hS rfl (jM_0 hW) rfl wd_66 wd_1588 mw_X12_goes wd_1586 rfl (rm_ok (by decide) (by decide)) (Nat.le_of_ble_eq_true rfl) ⟨Nat.zero_le _, Nat.zero_le _⟩ (by decide) dX12_year_56 (fun H locs hH hS => ?_)
    refine lv_aload_n hx hb dX12_year_59 rfl (lv_at hl 0 rfl) ?_
    refine g_1235 (i := 32) C hH (jM_0 hW) rfl dX12_year_60 ?_
    refine lv_bipush (v := 12) hx hb dX12_year_63 (by decide) ?_
    refine lv_iload_n hx hb dX12_year_65 rfl (lv_at hl 1 rfl) ?_
    refine lv_iadd hx hb dX12_year_66 ?_
    obtain ⟨b13, h⟩ := gd_e h
    refine h_iald C hH (jM_32 hW).1 (jM_32 hW).2.1 b13 dX12_year_67 ?_
    refine lv_if_le (tgt := 74) hx hb dX12_year_68 (by decide) (fun hc => ?_) (fun hc => ?_)
    · have h := ite_t hc h
      refine lv_iinc (v := x5 + 1) (lv' := [(5, .int (x5 + 1)), (0, .ref (wB ω + 0)), (1, .int x1), (2, .int x2), (3, .int x3), (4, .int x4)]) hx hb dX12_year_74 hl (k := 5) rfl rfl (by decide) rfl (fun ls hl => ?_)
      refine lv_goto (tgt := 33) hx hb dX12_year_77 (by decide) ?_
      exact hrec _ _ _ H locs ls hH hS (lv_sub hl [1, 2, 3, 4, 5, 0] rfl) h
    · have h := ite_f hc h
      refine lv_iinc (v := x4 + 1) (lv' := [(4, .int (x4 + 1)), (0, .ref (wB ω + 0)), (1, .int x1), (2, .int x2), (3, .int x3), (5, .int x5)]) hx hb dX12_year_71 hl (k := 4) rfl rfl (by decide) rfl (fun ls hl => ?_)
      refine lv_iinc (v := x5 + 1) (lv' := [(5, .int (x5 + 1)), (4, .int (x4 + 1)), (0, .ref (wB ω + 0)), (1, .int x1), (2, .int x2), (3, .int x3)]) hx hb dX12_year_74 hl (k := 5) rfl rfl (by decide) rfl (fun ls hl => ?_)
      refine lv_goto (tgt := 33) hx hb dX12_year_77 (by decide) ?_
      exact hrec _ _ _ H locs ls hH hS (lv_sub hl [2, 3, 4, 5, 1, 0] rfl) h
theorem wX12_year_l33 (hW : FWM ω) (C : Cx ω p s m args c cX12_year 6 RX12) (hr : meth.sig.returnType = some .int) (hk : meth.locks = false) {rr : Int32} {μo : Mem} {x1 : Int32} {x2 : Int32} {x3 : Int32} : ∀ (n : Nat) (x4 : Int32) (x5 : Int32) (μ : Mem) (H : Heap) (locs : List Loc) (ls : Array Slot), Hd ω μ H → FS ω s H locs → lv_has ls 6 [(0, .ref (wB ω + 0)), (1, .int x1), (2, .int x2), (3, .int x3), (4, .int x4), (5, .int x5)] → fX12_year_l33 x1 x2 x3 n x4 x5 μ = some (rr, μo) → W p l e (rmd 8) s m args below meth c H locs 0 0 (MQ below (QR ω (some (.int rr)) μo) args s 0 0 (wA ω)) (F0 m 33 ls []) := by
  intro n
  induction n with
  | zero => intro x4 x5 μ H locs ls hH hS hl h; cases h
  | succ n ih => intro x4 x5 μ H locs ls hH hS hl h; exact wX12_year_s33 hW C hr hk ih hH hS hl h
set_option maxHeartbeats 4000000 in
set_option maxRecDepth 100000 in
theorem wX12_year_e (hW : FWM ω) (C : Cx ω p s m args c cX12_year 6 RX12) (hr : meth.sig.returnType = some .int) (hk : meth.locks = false) {rr : Int32} {μo : Mem} {x1 : Int32} {x2 : Int32} {x3 : Int32} {μ : Mem} {H : Heap} {locs : List Loc} {ls : Array Slot} (hH : Hd ω μ H) (hS : FS ω s H locs) (hl : lv_has ls 6 [(0, .ref (wB ω + 0)), (1, .int x1), (2, .int x2), (3, .int x3)]) (h : fX12_year x1 x2 x3 μ = some (rr, μo)) : W p l e (rmd 8) s m args below meth c H locs 0 0 (MQ below (QR ω (some (.int rr)) μo) args s 0 0 (wA ω)) (F0 m 0 ls []) := by
  have hx := C.1
  have hb := C.2.1
  unfold fX12_year at h
  refine lv_aload_n hx hb dX12_year_0 rfl (lv_at hl 0 rfl) ?_
  refine lv_iload_n hx hb dX12_year_1 rfl (lv_at hl 1 rfl) ?_
  obtain ⟨r2, e1, h⟩ := b1_e h
  refine cVi (as := [.int x1]) (rest := []) (c_X12_isHouse hW e1) C hl.1 hH hS rfl (jM_0 hW) rfl wd_53 wd_1503 mw_X12_isHouse wd_1501 rfl (rm_ok (by decide) (by decide)) (Nat.le_of_ble_eq_true rfl) ⟨Nat.zero_le _, Nat.zero_le _⟩ (by decide) dX12_year_2 (fun H locs hH hS => ?_)
  refine lv_if_eq (tgt := 25) hx hb dX12_year_5 (by decide) (fun hc => ?_) (fun hc => ?_)
  · have h := ite_t hc h
    refine lv_iconst (v := (-1)) hx hb dX12_year_25 (by decide) ?_
    exact h_iret C hr hk hH hS rfl (by cases h; rfl) dX12_year_26
  · have h := ite_f hc h
    refine lv_iload_n hx hb dX12_year_8 rfl (lv_at hl 2 rfl) ?_
    obtain ⟨r4, e3, h⟩ := b1_e h
    refine cSi (as := [.int x2]) (rest := []) (c_X12_isLong e3) C hl.1 hH hS rfl wd_1584 mw_X12_isLong wd_1583 rfl (rm_ok (by decide) (by decide)) (Nat.le_of_ble_eq_true rfl) ⟨Nat.zero_le _, Nat.zero_le _⟩ dX12_year_9 (fun H locs hH hS => ?_)
    refine lv_if_eq (tgt := 25) hx hb dX12_year_12 (by decide) (fun hc => ?_) (fun hc => ?_)
    · have h := ite_t hc h
      refine lv_iconst (v := (-1)) hx hb dX12_year_25 (by decide) ?_
      exact h_iret C hr hk hH hS rfl (by cases h; rfl) dX12_year_26
    · have h := ite_f hc h
      refine lv_iload_n hx hb dX12_year_15 rfl (lv_at hl 3 rfl) ?_
      refine lv_iconst (v := 1) hx hb dX12_year_16 (by decide) ?_
      refine lv_bipush (v := 20) hx hb dX12_year_17 (by decide) ?_
      obtain ⟨r6, e5, h⟩ := b1_e h
      refine cSi (as := [.int x3, .int 1, .int 20]) (rest := []) (c_X12_in e5) C hl.1 hH hS rfl wd_1506 mw_X12_in wd_1505 rfl (rm_ok (by decide) (by decide)) (Nat.le_of_ble_eq_true rfl) ⟨Nat.zero_le _, Nat.zero_le _⟩ dX12_year_19 (fun H locs hH hS => ?_)
      refine lv_if_ne (tgt := 27) hx hb dX12_year_22 (by decide) (fun hc => ?_) (fun hc => ?_)
      · have h := ite_f hc h
        refine lv_iconst (v := 0) hx hb dX12_year_27 (by decide) ?_
        refine lv_istore (lv' := [(4, .int 0), (0, .ref (wB ω + 0)), (1, .int x1), (2, .int x2), (3, .int x3)]) hx hb dX12_year_28 hl (by decide) rfl (fun ls hl => ?_)
        refine lv_iconst (v := 0) hx hb dX12_year_30 (by decide) ?_
        refine lv_istore (lv' := [(5, .int 0), (4, .int 0), (0, .ref (wB ω + 0)), (1, .int x1), (2, .int x2), (3, .int x3)]) hx hb dX12_year_31 hl (by decide) rfl (fun ls hl => ?_)
        exact wX12_year_l33 hW C hr hk FU _ _ _ H locs ls hH hS (lv_sub hl [2, 3, 4, 5, 1, 0] rfl) h
      · have h := ite_t hc h
        refine lv_iconst (v := (-1)) hx hb dX12_year_25 (by decide) ?_
        exact h_iret C hr hk hH hS rfl (by cases h; rfl) dX12_year_26
theorem c_X12_year {l : Launch} {ω : WW} {x1 : Int32} {x2 : Int32} {x3 : Int32} (hW : FWM ω) {μ : Mem} {rr : Int32} {μo : Mem} (h : fX12_year x1 x2 x3 μ = some (rr, μo)) : Con l yX12_year cX12_year 6 (some .int) 8 ω [.ref (wB ω + 0), .int x1, .int x2, .int x3] μ (some (.int rr)) μo :=
  con_of (by decide) (Nat.le_of_ble_eq_true rfl) (fun p e s m args below meth c ls C hr hk hl hH hS => wX12_year_e hW C hr hk hH hS (lv_sub hl [0, 1, 2, 3] rfl) h)
end WK14
