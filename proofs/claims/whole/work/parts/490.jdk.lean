theorem dJ0_length_8abf5_0 : decode cJ0_length_8abf5 0 = .ok (.aload_n 0, 1) := by decide +kernel
theorem dJ0_length_8abf5_1 : decode cJ0_length_8abf5 1 = .ok (.getfield 9, 3) := by decide +kernel
theorem dJ0_length_8abf5_4 : decode cJ0_length_8abf5 4 = .ok (.arraylength, 1) := by decide +kernel
theorem dJ0_length_8abf5_5 : decode cJ0_length_8abf5 5 = .ok (.aload_n 0, 1) := by decide +kernel
theorem dJ0_length_8abf5_6 : decode cJ0_length_8abf5 6 = .ok (.invokevirtual 335, 3) := by decide +kernel
theorem dJ0_length_8abf5_9 : decode cJ0_length_8abf5 9 = .ok (.ishr, 1) := by decide +kernel
theorem dJ0_length_8abf5_10 : decode cJ0_length_8abf5 10 = .ok (.ireturn, 1) := by decide +kernel
theorem dJ0_coder_7d493_0 : decode cJ0_coder_7d493 0 = .ok (.getstatic 38, 3) := by decide +kernel
theorem dJ0_coder_7d493_3 : decode cJ0_coder_7d493 3 = .ok (.ifCond .eq 10, 3) := by decide +kernel
theorem dJ0_coder_7d493_6 : decode cJ0_coder_7d493 6 = .ok (.aload_n 0, 1) := by decide +kernel
theorem dJ0_coder_7d493_7 : decode cJ0_coder_7d493 7 = .ok (.getfield 15, 3) := by decide +kernel
theorem dJ0_coder_7d493_10 : decode cJ0_coder_7d493 10 = .ok (.goto 4, 3) := by decide +kernel
theorem dJ0_coder_7d493_13 : decode cJ0_coder_7d493 13 = .ok (.iconst 1, 1) := by decide +kernel
theorem dJ0_coder_7d493_14 : decode cJ0_coder_7d493 14 = .ok (.ireturn, 1) := by decide +kernel
theorem dJ0_isLatin1_aae02_0 : decode cJ0_isLatin1_aae02 0 = .ok (.getstatic 38, 3) := by decide +kernel
theorem dJ0_isLatin1_aae02_3 : decode cJ0_isLatin1_aae02 3 = .ok (.ifCond .eq 14, 3) := by decide +kernel
theorem dJ0_isLatin1_aae02_6 : decode cJ0_isLatin1_aae02 6 = .ok (.aload_n 0, 1) := by decide +kernel
theorem dJ0_isLatin1_aae02_7 : decode cJ0_isLatin1_aae02 7 = .ok (.getfield 15, 3) := by decide +kernel
theorem dJ0_isLatin1_aae02_10 : decode cJ0_isLatin1_aae02 10 = .ok (.ifCond .ne 7, 3) := by decide +kernel
theorem dJ0_isLatin1_aae02_13 : decode cJ0_isLatin1_aae02 13 = .ok (.iconst 1, 1) := by decide +kernel
theorem dJ0_isLatin1_aae02_14 : decode cJ0_isLatin1_aae02 14 = .ok (.goto 4, 3) := by decide +kernel
theorem dJ0_isLatin1_aae02_17 : decode cJ0_isLatin1_aae02 17 = .ok (.iconst 0, 1) := by decide +kernel
theorem dJ0_isLatin1_aae02_18 : decode cJ0_isLatin1_aae02 18 = .ok (.ireturn, 1) := by decide +kernel
theorem dJ0_charAt_5068e_0 : decode cJ0_charAt_5068e 0 = .ok (.aload_n 0, 1) := by decide +kernel
theorem dJ0_charAt_5068e_1 : decode cJ0_charAt_5068e 1 = .ok (.invokevirtual 492, 3) := by decide +kernel
theorem dJ0_charAt_5068e_4 : decode cJ0_charAt_5068e 4 = .ok (.ifCond .eq 12, 3) := by decide +kernel
theorem dJ0_charAt_5068e_7 : decode cJ0_charAt_5068e 7 = .ok (.aload_n 0, 1) := by decide +kernel
theorem dJ0_charAt_5068e_8 : decode cJ0_charAt_5068e 8 = .ok (.getfield 9, 3) := by decide +kernel
theorem dJ0_charAt_5068e_11 : decode cJ0_charAt_5068e 11 = .ok (.iload_n 1, 1) := by decide +kernel
theorem dJ0_charAt_5068e_12 : decode cJ0_charAt_5068e 12 = .ok (.invokestatic 495, 3) := by decide +kernel
theorem dJ0_charAt_5068e_15 : decode cJ0_charAt_5068e 15 = .ok (.ireturn, 1) := by decide +kernel
theorem dJ0_charAt_5068e_16 : decode cJ0_charAt_5068e 16 = .ok (.aload_n 0, 1) := by decide +kernel
theorem dJ0_charAt_5068e_17 : decode cJ0_charAt_5068e 17 = .ok (.getfield 9, 3) := by decide +kernel
theorem dJ0_charAt_5068e_20 : decode cJ0_charAt_5068e 20 = .ok (.iload_n 1, 1) := by decide +kernel
theorem dJ0_charAt_5068e_21 : decode cJ0_charAt_5068e 21 = .ok (.invokestatic 498, 3) := by decide +kernel
theorem dJ0_charAt_5068e_24 : decode cJ0_charAt_5068e 24 = .ok (.ireturn, 1) := by decide +kernel
theorem dJ0_indexOf_0f7a4_0 : decode cJ0_indexOf_0f7a4 0 = .ok (.aload_n 0, 1) := by decide +kernel
theorem dJ0_indexOf_0f7a4_1 : decode cJ0_indexOf_0f7a4 1 = .ok (.iload_n 1, 1) := by decide +kernel
theorem dJ0_indexOf_0f7a4_2 : decode cJ0_indexOf_0f7a4 2 = .ok (.iconst 0, 1) := by decide +kernel
theorem dJ0_indexOf_0f7a4_3 : decode cJ0_indexOf_0f7a4 3 = .ok (.invokevirtual 633, 3) := by decide +kernel
theorem dJ0_indexOf_0f7a4_6 : decode cJ0_indexOf_0f7a4 6 = .ok (.ireturn, 1) := by decide +kernel
theorem dJ0_indexOf_7cf53_0 : decode cJ0_indexOf_7cf53 0 = .ok (.aload_n 0, 1) := by decide +kernel
theorem dJ0_indexOf_7cf53_1 : decode cJ0_indexOf_7cf53 1 = .ok (.invokevirtual 492, 3) := by decide +kernel
theorem dJ0_indexOf_7cf53_4 : decode cJ0_indexOf_7cf53 4 = .ok (.ifCond .eq 19, 3) := by decide +kernel
theorem dJ0_indexOf_7cf53_7 : decode cJ0_indexOf_7cf53 7 = .ok (.aload_n 0, 1) := by decide +kernel
theorem dJ0_indexOf_7cf53_8 : decode cJ0_indexOf_7cf53 8 = .ok (.getfield 9, 3) := by decide +kernel
theorem dJ0_indexOf_7cf53_11 : decode cJ0_indexOf_7cf53 11 = .ok (.iload_n 1, 1) := by decide +kernel
theorem dJ0_indexOf_7cf53_12 : decode cJ0_indexOf_7cf53 12 = .ok (.iload_n 2, 1) := by decide +kernel
theorem dJ0_indexOf_7cf53_13 : decode cJ0_indexOf_7cf53 13 = .ok (.aload_n 0, 1) := by decide +kernel
theorem dJ0_indexOf_7cf53_14 : decode cJ0_indexOf_7cf53 14 = .ok (.invokevirtual 505, 3) := by decide +kernel
theorem dJ0_indexOf_7cf53_17 : decode cJ0_indexOf_7cf53 17 = .ok (.invokestatic 637, 3) := by decide +kernel
theorem dJ0_indexOf_7cf53_20 : decode cJ0_indexOf_7cf53 20 = .ok (.goto 16, 3) := by decide +kernel
theorem dJ0_indexOf_7cf53_23 : decode cJ0_indexOf_7cf53 23 = .ok (.aload_n 0, 1) := by decide +kernel
theorem dJ0_indexOf_7cf53_24 : decode cJ0_indexOf_7cf53 24 = .ok (.getfield 9, 3) := by decide +kernel
theorem dJ0_indexOf_7cf53_27 : decode cJ0_indexOf_7cf53 27 = .ok (.iload_n 1, 1) := by decide +kernel
theorem dJ0_indexOf_7cf53_28 : decode cJ0_indexOf_7cf53 28 = .ok (.iload_n 2, 1) := by decide +kernel
theorem dJ0_indexOf_7cf53_29 : decode cJ0_indexOf_7cf53 29 = .ok (.aload_n 0, 1) := by decide +kernel
theorem dJ0_indexOf_7cf53_30 : decode cJ0_indexOf_7cf53 30 = .ok (.invokevirtual 505, 3) := by decide +kernel
theorem dJ0_indexOf_7cf53_33 : decode cJ0_indexOf_7cf53 33 = .ok (.invokestatic 640, 3) := by decide +kernel
theorem dJ0_indexOf_7cf53_36 : decode cJ0_indexOf_7cf53 36 = .ok (.ireturn, 1) := by decide +kernel
theorem dJ0_checkIndex_df160_0 : decode cJ0_checkIndex_df160 0 = .ok (.iload_n 0, 1) := by decide +kernel
theorem dJ0_checkIndex_df160_1 : decode cJ0_checkIndex_df160 1 = .ok (.iload_n 1, 1) := by decide +kernel
theorem dJ0_checkIndex_df160_2 : decode cJ0_checkIndex_df160 2 = .ok (.getstatic 1053, 3) := by decide +kernel
theorem dJ0_checkIndex_df160_5 : decode cJ0_checkIndex_df160 5 = .ok (.invokestatic 1059, 3) := by decide +kernel
theorem dJ0_checkIndex_df160_8 : decode cJ0_checkIndex_df160 8 = .ok (.pop, 1) := by decide +kernel
theorem dJ0_checkIndex_df160_9 : decode cJ0_checkIndex_df160 9 = .ok (.return_, 1) := by decide +kernel
theorem dJ1_charAt_3b067_0 : decode cJ1_charAt_3b067 0 = .ok (.iload_n 1, 1) := by decide +kernel
theorem dJ1_charAt_3b067_1 : decode cJ1_charAt_3b067 1 = .ok (.aload_n 0, 1) := by decide +kernel
theorem dJ1_charAt_3b067_2 : decode cJ1_charAt_3b067 2 = .ok (.arraylength, 1) := by decide +kernel
theorem dJ1_charAt_3b067_3 : decode cJ1_charAt_3b067 3 = .ok (.invokestatic 9, 3) := by decide +kernel
theorem dJ1_charAt_3b067_6 : decode cJ1_charAt_3b067 6 = .ok (.aload_n 0, 1) := by decide +kernel
theorem dJ1_charAt_3b067_7 : decode cJ1_charAt_3b067 7 = .ok (.iload_n 1, 1) := by decide +kernel
theorem dJ1_charAt_3b067_8 : decode cJ1_charAt_3b067 8 = .ok (.baload, 1) := by decide +kernel
theorem dJ1_charAt_3b067_9 : decode cJ1_charAt_3b067 9 = .ok (.sipush 255, 3) := by decide +kernel
theorem dJ1_charAt_3b067_12 : decode cJ1_charAt_3b067 12 = .ok (.iand, 1) := by decide +kernel
theorem dJ1_charAt_3b067_13 : decode cJ1_charAt_3b067 13 = .ok (.i2c, 1) := by decide +kernel
theorem dJ1_charAt_3b067_14 : decode cJ1_charAt_3b067 14 = .ok (.ireturn, 1) := by decide +kernel
theorem dJ1_canEncode_9a6ad_0 : decode cJ1_canEncode_9a6ad 0 = .ok (.iload_n 0, 1) := by decide +kernel
theorem dJ1_canEncode_9a6ad_1 : decode cJ1_canEncode_9a6ad 1 = .ok (.ifCond .lt 14, 3) := by decide +kernel
theorem dJ1_canEncode_9a6ad_4 : decode cJ1_canEncode_9a6ad 4 = .ok (.iload_n 0, 1) := by decide +kernel
theorem dJ1_canEncode_9a6ad_5 : decode cJ1_canEncode_9a6ad 5 = .ok (.sipush 255, 3) := by decide +kernel
theorem dJ1_canEncode_9a6ad_8 : decode cJ1_canEncode_9a6ad 8 = .ok (.if_icmp .gt 7, 3) := by decide +kernel
theorem dJ1_canEncode_9a6ad_11 : decode cJ1_canEncode_9a6ad 11 = .ok (.iconst 1, 1) := by decide +kernel
theorem dJ1_canEncode_9a6ad_12 : decode cJ1_canEncode_9a6ad 12 = .ok (.goto 4, 3) := by decide +kernel
theorem dJ1_canEncode_9a6ad_15 : decode cJ1_canEncode_9a6ad 15 = .ok (.iconst 0, 1) := by decide +kernel
theorem dJ1_canEncode_9a6ad_16 : decode cJ1_canEncode_9a6ad 16 = .ok (.ireturn, 1) := by decide +kernel
theorem dJ1_indexOf_4cfef_0 : decode cJ1_indexOf_4cfef 0 = .ok (.iload_n 1, 1) := by decide +kernel
theorem dJ1_indexOf_4cfef_1 : decode cJ1_indexOf_4cfef 1 = .ok (.invokestatic 88, 3) := by decide +kernel
theorem dJ1_indexOf_4cfef_4 : decode cJ1_indexOf_4cfef 4 = .ok (.ifCond .ne 5, 3) := by decide +kernel
theorem dJ1_indexOf_4cfef_7 : decode cJ1_indexOf_4cfef 7 = .ok (.iconst (-1), 1) := by decide +kernel
theorem dJ1_indexOf_4cfef_8 : decode cJ1_indexOf_4cfef 8 = .ok (.ireturn, 1) := by decide +kernel
theorem dJ1_indexOf_4cfef_9 : decode cJ1_indexOf_4cfef 9 = .ok (.iload_n 2, 1) := by decide +kernel
theorem dJ1_indexOf_4cfef_10 : decode cJ1_indexOf_4cfef 10 = .ok (.iconst 0, 1) := by decide +kernel
theorem dJ1_indexOf_4cfef_11 : decode cJ1_indexOf_4cfef 11 = .ok (.invokestatic 92, 3) := by decide +kernel
theorem dJ1_indexOf_4cfef_14 : decode cJ1_indexOf_4cfef 14 = .ok (.istore_n 2, 1) := by decide +kernel
theorem dJ1_indexOf_4cfef_15 : decode cJ1_indexOf_4cfef 15 = .ok (.iload_n 3, 1) := by decide +kernel
theorem dJ1_indexOf_4cfef_16 : decode cJ1_indexOf_4cfef 16 = .ok (.aload_n 0, 1) := by decide +kernel
theorem dJ1_indexOf_4cfef_17 : decode cJ1_indexOf_4cfef 17 = .ok (.arraylength, 1) := by decide +kernel
theorem dJ1_indexOf_4cfef_18 : decode cJ1_indexOf_4cfef 18 = .ok (.invokestatic 38, 3) := by decide +kernel
theorem dJ1_indexOf_4cfef_21 : decode cJ1_indexOf_4cfef 21 = .ok (.istore_n 3, 1) := by decide +kernel
theorem dJ1_indexOf_4cfef_22 : decode cJ1_indexOf_4cfef 22 = .ok (.iload_n 2, 1) := by decide +kernel
theorem dJ1_indexOf_4cfef_23 : decode cJ1_indexOf_4cfef 23 = .ok (.iload_n 3, 1) := by decide +kernel
theorem dJ1_indexOf_4cfef_24 : decode cJ1_indexOf_4cfef 24 = .ok (.if_icmp .lt 5, 3) := by decide +kernel
theorem dJ1_indexOf_4cfef_27 : decode cJ1_indexOf_4cfef 27 = .ok (.iconst (-1), 1) := by decide +kernel
theorem dJ1_indexOf_4cfef_28 : decode cJ1_indexOf_4cfef 28 = .ok (.ireturn, 1) := by decide +kernel
theorem dJ1_indexOf_4cfef_29 : decode cJ1_indexOf_4cfef 29 = .ok (.aload_n 0, 1) := by decide +kernel
theorem dJ1_indexOf_4cfef_30 : decode cJ1_indexOf_4cfef 30 = .ok (.iload_n 1, 1) := by decide +kernel
theorem dJ1_indexOf_4cfef_31 : decode cJ1_indexOf_4cfef 31 = .ok (.iload_n 2, 1) := by decide +kernel
theorem dJ1_indexOf_4cfef_32 : decode cJ1_indexOf_4cfef 32 = .ok (.iload_n 3, 1) := by decide +kernel
theorem dJ1_indexOf_4cfef_33 : decode cJ1_indexOf_4cfef 33 = .ok (.invokestatic 95, 3) := by decide +kernel
theorem dJ1_indexOf_4cfef_36 : decode cJ1_indexOf_4cfef 36 = .ok (.ireturn, 1) := by decide +kernel
theorem dJ1_indexOfChar_4cfef_0 : decode cJ1_indexOfChar_4cfef 0 = .ok (.iload_n 1, 1) := by decide +kernel
theorem dJ1_indexOfChar_4cfef_1 : decode cJ1_indexOfChar_4cfef 1 = .ok (.i2b, 1) := by decide +kernel
theorem dJ1_indexOfChar_4cfef_2 : decode cJ1_indexOfChar_4cfef 2 = .ok (.istore 4, 2) := by decide +kernel
theorem dJ1_indexOfChar_4cfef_4 : decode cJ1_indexOfChar_4cfef 4 = .ok (.iload_n 2, 1) := by decide +kernel
theorem dJ1_indexOfChar_4cfef_5 : decode cJ1_indexOfChar_4cfef 5 = .ok (.istore 5, 2) := by decide +kernel
theorem dJ1_indexOfChar_4cfef_7 : decode cJ1_indexOfChar_4cfef 7 = .ok (.iload 5, 2) := by decide +kernel
theorem dJ1_indexOfChar_4cfef_9 : decode cJ1_indexOfChar_4cfef 9 = .ok (.iload_n 3, 1) := by decide +kernel
theorem dJ1_indexOfChar_4cfef_10 : decode cJ1_indexOfChar_4cfef 10 = .ok (.if_icmp .ge 21, 3) := by decide +kernel
theorem dJ1_indexOfChar_4cfef_13 : decode cJ1_indexOfChar_4cfef 13 = .ok (.aload_n 0, 1) := by decide +kernel
theorem dJ1_indexOfChar_4cfef_14 : decode cJ1_indexOfChar_4cfef 14 = .ok (.iload 5, 2) := by decide +kernel
theorem dJ1_indexOfChar_4cfef_16 : decode cJ1_indexOfChar_4cfef 16 = .ok (.baload, 1) := by decide +kernel
theorem dJ1_indexOfChar_4cfef_17 : decode cJ1_indexOfChar_4cfef 17 = .ok (.iload 4, 2) := by decide +kernel
theorem dJ1_indexOfChar_4cfef_19 : decode cJ1_indexOfChar_4cfef 19 = .ok (.if_icmp .ne 6, 3) := by decide +kernel
theorem dJ1_indexOfChar_4cfef_22 : decode cJ1_indexOfChar_4cfef 22 = .ok (.iload 5, 2) := by decide +kernel
theorem dJ1_indexOfChar_4cfef_24 : decode cJ1_indexOfChar_4cfef 24 = .ok (.ireturn, 1) := by decide +kernel
theorem dJ1_indexOfChar_4cfef_25 : decode cJ1_indexOfChar_4cfef 25 = .ok (.iinc 5 1, 3) := by decide +kernel
theorem dJ1_indexOfChar_4cfef_28 : decode cJ1_indexOfChar_4cfef 28 = .ok (.goto (-21), 3) := by decide +kernel
theorem dJ1_indexOfChar_4cfef_31 : decode cJ1_indexOfChar_4cfef 31 = .ok (.iconst (-1), 1) := by decide +kernel
theorem dJ1_indexOfChar_4cfef_32 : decode cJ1_indexOfChar_4cfef 32 = .ok (.ireturn, 1) := by decide +kernel
theorem dJ3_checkIndex_8e157_0 : decode cJ3_checkIndex_8e157 0 = .ok (.iload_n 0, 1) := by decide +kernel
theorem dJ3_checkIndex_8e157_1 : decode cJ3_checkIndex_8e157 1 = .ok (.ifCond .lt 8, 3) := by decide +kernel
theorem dJ3_checkIndex_8e157_4 : decode cJ3_checkIndex_8e157 4 = .ok (.iload_n 0, 1) := by decide +kernel
theorem dJ3_checkIndex_8e157_5 : decode cJ3_checkIndex_8e157 5 = .ok (.iload_n 1, 1) := by decide +kernel
theorem dJ3_checkIndex_8e157_6 : decode cJ3_checkIndex_8e157 6 = .ok (.if_icmp .lt 10, 3) := by decide +kernel
theorem dJ3_checkIndex_8e157_9 : decode cJ3_checkIndex_8e157 9 = .ok (.aload_n 2, 1) := by decide +kernel
theorem dJ3_checkIndex_8e157_10 : decode cJ3_checkIndex_8e157 10 = .ok (.iload_n 0, 1) := by decide +kernel
theorem dJ3_checkIndex_8e157_11 : decode cJ3_checkIndex_8e157 11 = .ok (.iload_n 1, 1) := by decide +kernel
theorem dJ3_checkIndex_8e157_12 : decode cJ3_checkIndex_8e157 12 = .ok (.invokestatic 95, 3) := by decide +kernel
theorem dJ3_checkIndex_8e157_15 : decode cJ3_checkIndex_8e157 15 = .ok (.athrow, 1) := by decide +kernel
theorem dJ3_checkIndex_8e157_16 : decode cJ3_checkIndex_8e157 16 = .ok (.iload_n 0, 1) := by decide +kernel
theorem dJ3_checkIndex_8e157_17 : decode cJ3_checkIndex_8e157 17 = .ok (.ireturn, 1) := by decide +kernel
section JD
variable {p : Program} {l : Launch} {e : Env} {R : Room} {s : State} {m : MethodId} {args : Array Value} {below : List Frame} {meth : Method} {c : Code} {H : Heap} {locs : List Loc} {cells slots : Nat} {Q : State → Prop}
variable {cc : ByteArray} {pc nL d : Nat} {ls : Array Slot} {rest : List Value} {ω : WW} {μ : Mem} {own : String} {X : Nat → Nat}
def sl (k : Nat) : Nat := ([115, 9] : List Nat).getD k 0
def sb (k : Nat) : List Int32 := ([xWORDS, xSIGNS] : List (List Int32)).getD k []
theorem h_nret {v : Option Value} {μ' : Mem} {x y : Int32} {ty : FieldType} (C : Cx ω p s m args c cc nL own) (hr : meth.sig.returnType = some ty) (hlocks : meth.locks = false) (hH : Hd ω μ H) (hS : FS ω s H locs) (hn : narrow ty (.int x) = .int y) (h : (some (.int y), μ) = (v, μ')) (hdg : decode cc pc = .ok (.ireturn, 1)) :
    W p l e R s m args below meth c H locs cells slots (MQ below (QR ω v μ') args s cells slots (wA ω)) (F0 m pc ls [.int x]) := by
  cases h
  have hexec := C.1
  have hb := C.2.1
  intro T hT X
  obtain ⟨fs, hret, hrun, hended, hW, hframe⟩ := X.leave (v := some (.int y)) (fun h => by rw [hr] at h; cases h)
  have hmeth' : T.vm.method? m = some meth := X.method'
  refine ⟨T.setFrames fs, ?_, .returned (some (.int y)), hrun, hended, ⟨rfl, (by show Hd ω μ T.heap; rw [hT]; exact hH), hS.1.F hT, (by show T.heap.size = _; rw [hT]; exact hS.2)⟩, locs, ⟨⟨_, rfl⟩, hW, hframe⟩, hS.1.2.2⟩
  jvm_step X.here [X.here.top, hexec, hb, hdg, hmeth', hr, hn]
  (try refine ⟨rfl, ?_⟩); (try refine ⟨rfl, ?_⟩)
  first | (intro acts; rw [hret _ acts rfl rfl rfl]) | rw [hret _ _ rfl rfl rfl]
  exact Steps.refl _
/-- the parts of a text -/
theorem x_str (hE : EF X (wA ω) s) {k : Nat} (hk : k < 2) : va_O "java/lang/String" (X (3 + k)) (wA ω) s s.heap ∧ va_OF "java/lang/String" "coder" "B" (.int 0) (X (3 + k)) (wA ω) s s.heap ∧ va_OF "java/lang/String" "value" "[B" (.ref (X (5 + k))) (X (3 + k)) (wA ω) s s.heap ∧ va_T .byte (X (5 + k)) (sl k) (fun j => .int ((sb k).getD j 0)) (wA ω) s s.heap := hE.2.2.2.2.1.1 k hk
theorem x_rcv (hE : EF X (wA ω) s) {k : Nat} (hk : k < 2) (hS : FS ω s H locs) : ∃ cellB : Cell, H[X (3 + k)]? = some cellB ∧ cellB.vm.isStatics = false ∧ s.vm.findClass RJ0 = some cellB.cls := by
  obtain ⟨cell, h1, h2, h3, h4⟩ := (x_str hE hk).1
  exact ⟨cell, by rw [hS.1.2.1 _ (Array.getElem?_eq_some_iff.mp h1).1 h4]; exact h1, h2, h3⟩
theorem h_val (hE : EF X (wA ω) s) {k : Nat} (hk : k < 2) (C : Cx ω p s m args c cc nL RJ0) (hS : FS ω s H locs) (hdg : decode cc pc = .ok (.getfield 9, 3))
    (kk : W p l e R s m args below meth c H locs cells slots Q (F0 m (pc + 3) ls (.ref (X (5 + k)) :: rest))) : W p l e R s m args below meth c H locs cells slots Q (F0 m pc ls (.ref (X (3 + k)) :: rest)) :=
  vk_getf C.1 C.2.1 (x_str hE hk).2.2.1 hS.1 C.2.2.2.1 (C.2.2.2.2.1 _ (tg wd_1847 rfl)) (fun _ h => h) hdg kk
theorem h_cod (hE : EF X (wA ω) s) {k : Nat} (hk : k < 2) (C : Cx ω p s m args c cc nL RJ0) (hS : FS ω s H locs) (hdg : decode cc pc = .ok (.getfield 15, 3))
    (kk : W p l e R s m args below meth c H locs cells slots Q (F0 m (pc + 3) ls (.int 0 :: rest))) : W p l e R s m args below meth c H locs cells slots Q (F0 m pc ls (.ref (X (3 + k)) :: rest)) :=
  vk_getf C.1 C.2.1 (x_str hE hk).2.1 hS.1 C.2.2.2.1 (C.2.2.2.2.1 _ (tg wd_1848 rfl)) (fun _ h => h) hdg kk
theorem h_cmp (hE : EF X (wA ω) s) (C : Cx ω p s m args c cc nL RJ0) (hS : FS ω s H locs) (hdg : decode cc pc = .ok (.getstatic 38, 3))
    (kk : W p l e R s m args below meth c H locs cells slots Q (F0 m (pc + 3) ls (.int 1 :: rest))) : W p l e R s m args below meth c H locs cells slots Q (F0 m pc ls rest) :=
  va_gets C.1 C.2.1 hE.2.2.2.2.2.1 hS.1 C.2.2.2.1 (C.2.2.2.2.1 _ (tg wd_148 rfl)) (fun _ h => h) hdg kk
theorem h_blen (hE : EF X (wA ω) s) {k : Nat} (hk : k < 2) (C : Cx ω p s m args c cc nL own) (hS : FS ω s H locs) (hdg : decode cc pc = .ok (.arraylength, 1))
    (kk : W p l e R s m args below meth c H locs cells slots Q (F0 m (pc + 1) ls (.int (nI (sl k)) :: rest))) : W p l e R s m args below meth c H locs cells slots Q (F0 m pc ls (.ref (X (5 + k)) :: rest)) := by
  obtain ⟨cell, h1, h2, h3, h4, h5, h6⟩ := x_ald (x_str hE hk).2.2.2 hS
  exact W.alen (n := nI (sl k)) C.1 C.2.1 h1 h2 h5 rfl rfl hdg kk
theorem h_bald2 (hE : EF X (wA ω) s) {k : Nat} (hk : k < 2) (C : Cx ω p s m args c cc nL own) (hS : FS ω s H locs) {i : Int32} (hin : ix i (sl k) = true) (hdg : decode cc pc = .ok (.baload, 1))
    (kk : W p l e R s m args below meth c H locs cells slots Q (F0 m (pc + 1) ls (.int ((sb k).getD i.toNatClampNeg 0) :: rest))) : W p l e R s m args below meth c H locs cells slots Q (F0 m pc ls (.int i :: .ref (X (5 + k)) :: rest)) := by
  obtain ⟨cell, h1, h2, h3, h4, h5, h6⟩ := x_ald (x_str hE hk).2.2.2 hS
  exact W.bald (v := .int ((sb k).getD i.toNatClampNeg 0)) C.1 C.2.1 h1 h2 h3 (x_in hin h4) (h6 _ (ix_lt hin)) rfl rfl hdg kk
theorem c_coder (hX : ∀ U : State, wE ω U → EF X (wA ω) U) {k : Nat} (hk : k < 2) : Con l yJ0_coder_7d493 cJ0_coder_7d493 1 (some .byte) 1 ω [.ref (X (3 + k))] μ (some (.int 0)) μ := by
  refine con_of (by decide) (Nat.le_of_ble_eq_true rfl) (fun p e s m args below meth c ls C hr hlk hl hH hS => ?_)
  have hx := C.1
  have hb := C.2.1
  have hE := hX s C.2.2.2.2.2.2.1
  refine h_cmp hE C hS dJ0_coder_7d493_0 ?_
  refine lv_if_eq (tgt := 13) hx hb dJ0_coder_7d493_3 (by decide) (fun hc => absurd hc (by decide)) (fun hc => ?_)
  refine lv_aload_n hx hb dJ0_coder_7d493_6 rfl (lv_at hl 0 rfl) ?_
  refine h_cod hE hk C hS dJ0_coder_7d493_7 ?_
  refine lv_goto (tgt := 14) hx hb dJ0_coder_7d493_10 (by decide) ?_
  exact h_nret C hr hlk hH hS rfl rfl dJ0_coder_7d493_14
theorem c_isLatin1 (hX : ∀ U : State, wE ω U → EF X (wA ω) U) {k : Nat} (hk : k < 2) : Con l yJ0_isLatin1_aae02 cJ0_isLatin1_aae02 1 (some .boolean) 1 ω [.ref (X (3 + k))] μ (some (.int 1)) μ := by
  refine con_of (by decide) (Nat.le_of_ble_eq_true rfl) (fun p e s m args below meth c ls C hr hlk hl hH hS => ?_)
  have hx := C.1
  have hb := C.2.1
  have hE := hX s C.2.2.2.2.2.2.1
  refine h_cmp hE C hS dJ0_isLatin1_aae02_0 ?_
  refine lv_if_eq (tgt := 17) hx hb dJ0_isLatin1_aae02_3 (by decide) (fun hc => absurd hc (by decide)) (fun hc => ?_)
  refine lv_aload_n hx hb dJ0_isLatin1_aae02_6 rfl (lv_at hl 0 rfl) ?_
  refine h_cod hE hk C hS dJ0_isLatin1_aae02_7 ?_
  refine lv_if_ne (tgt := 17) hx hb dJ0_isLatin1_aae02_10 (by decide) (fun hc => absurd rfl hc) (fun hc => ?_)
  refine lv_iconst (v := 1) hx hb dJ0_isLatin1_aae02_13 (by decide) ?_
  refine lv_goto (tgt := 18) hx hb dJ0_isLatin1_aae02_14 (by decide) ?_
  exact h_nret C hr hlk hH hS rfl rfl dJ0_isLatin1_aae02_18
theorem c_length (hX : ∀ U : State, wE ω U → EF X (wA ω) U) {k : Nat} (hk : k < 2) : Con l yJ0_length_8abf5 cJ0_length_8abf5 1 (some .int) 2 ω [.ref (X (3 + k))] μ (some (.int (nI (sl k)))) μ := by
  refine con_of (by decide) (Nat.le_of_ble_eq_true rfl) (fun p e s m args below meth c ls C hr hlk hl hH hS => ?_)
  have hx := C.1
  have hb := C.2.1
  have hE := hX s C.2.2.2.2.2.2.1
  refine lv_aload_n hx hb dJ0_length_8abf5_0 rfl (lv_at hl 0 rfl) ?_
  refine h_val hE hk C hS dJ0_length_8abf5_1 ?_
  refine h_blen hE hk C hS dJ0_length_8abf5_4 ?_
  refine lv_aload_n hx hb dJ0_length_8abf5_5 rfl (lv_at hl 0 rfl) ?_
  refine h_callX (as := []) (rest := [.int (nI (sl k))]) (c_coder hX hk) C hl.1 hH hS rfl (x_rcv hE hk hS) wd_146 wd_145 mw_J0_coder_7d493 wd_144 rfl (rm_ok (by decide) (by decide)) (Nat.le_of_ble_eq_true rfl) ⟨Nat.zero_le _, Nat.zero_le _⟩ dJ0_length_8abf5_6 (fun H locs hH hS => ?_)
  refine lv_ishr hx hb dJ0_length_8abf5_9 ?_
  refine h_nret C hr hlk hH hS rfl ?_ dJ0_length_8abf5_10
  rw [show nI (sl k) >>> ((0 : Int32) &&& 31) = nI (sl k) from sb_shr0 _]
theorem c_pcheck {a b : Int32} (h0 : ¬ a < 0) (h1 : a < b) {v : Value} (hv : v = .null ∨ ∃ t, v = .ref t) : Con l yJ3_checkIndex_8e157 cJ3_checkIndex_8e157 3 (some .int) 1 ω [.int a, .int b, v] μ (some (.int a)) μ := by
  rcases hv with rfl | ⟨t, rfl⟩
  · refine con_of (by decide) (Nat.le_of_ble_eq_true rfl) (fun p e s m args below meth c ls C hr hlk hl hH hS => ?_)
    have hx := C.1
    have hb := C.2.1
    refine lv_iload_n hx hb dJ3_checkIndex_8e157_0 rfl (lv_at hl 0 rfl) ?_
    refine lv_if_lt (tgt := 9) hx hb dJ3_checkIndex_8e157_1 (by decide) (fun hc => absurd hc h0) (fun hc => ?_)
    refine lv_iload_n hx hb dJ3_checkIndex_8e157_4 rfl (lv_at hl 0 rfl) ?_
    refine lv_iload_n hx hb dJ3_checkIndex_8e157_5 rfl (lv_at hl 1 rfl) ?_
    refine lv_icmp_lt (tgt := 16) hx hb dJ3_checkIndex_8e157_6 (by decide) (fun hc => ?_) (fun hc => absurd h1 hc)
    refine lv_iload_n hx hb dJ3_checkIndex_8e157_16 rfl (lv_at hl 0 rfl) ?_
    exact h_nret C hr hlk hH hS rfl rfl dJ3_checkIndex_8e157_17
  · refine con_of (by decide) (Nat.le_of_ble_eq_true rfl) (fun p e s m args below meth c ls C hr hlk hl hH hS => ?_)
    have hx := C.1
    have hb := C.2.1
    refine lv_iload_n hx hb dJ3_checkIndex_8e157_0 rfl (lv_at hl 0 rfl) ?_
    refine lv_if_lt (tgt := 9) hx hb dJ3_checkIndex_8e157_1 (by decide) (fun hc => absurd hc h0) (fun hc => ?_)
    refine lv_iload_n hx hb dJ3_checkIndex_8e157_4 rfl (lv_at hl 0 rfl) ?_
    refine lv_iload_n hx hb dJ3_checkIndex_8e157_5 rfl (lv_at hl 1 rfl) ?_
    refine lv_icmp_lt (tgt := 16) hx hb dJ3_checkIndex_8e157_6 (by decide) (fun hc => ?_) (fun hc => absurd h1 hc)
    refine lv_iload_n hx hb dJ3_checkIndex_8e157_16 rfl (lv_at hl 0 rfl) ?_
    exact h_nret C hr hlk hH hS rfl rfl dJ3_checkIndex_8e157_17
theorem c_check (hX : ∀ U : State, wE ω U → EF X (wA ω) U) {a b : Int32} (h0 : ¬ a < 0) (h1 : a < b) : Con l yJ0_checkIndex_df160 cJ0_checkIndex_df160 2 none 2 ω [.int a, .int b] μ none μ := by
  refine con_of (by decide) (Nat.le_of_ble_eq_true rfl) (fun p e s m args below meth c ls C hr hlk hl hH hS => ?_)
  have hx := C.1
  have hb := C.2.1
  have hE := hX s C.2.2.2.2.2.2.1
  refine lv_iload_n hx hb dJ0_checkIndex_df160_0 rfl (lv_at hl 0 rfl) ?_
  refine lv_iload_n hx hb dJ0_checkIndex_df160_1 rfl (lv_at hl 1 rfl) ?_
  rcases hE.2.2.2.2.2.2 with hZ | ⟨t, hZ⟩
  · refine va_gets hx hb hZ hS.1 C.2.2.2.1 (C.2.2.2.2.1 _ (tg wd_164 rfl)) (fun _ h => h) dJ0_checkIndex_df160_2 ?_
    refine cSi (as := [.int a, .int b, .null]) (rest := []) (c_pcheck h0 h1 (Or.inl rfl)) C hl.1 hH hS rfl wd_167 mw_J3_checkIndex_8e157 wd_166 rfl (rm_ok (by decide) (by decide)) (Nat.le_of_ble_eq_true rfl) ⟨Nat.zero_le _, Nat.zero_le _⟩ dJ0_checkIndex_df160_5 (fun H locs hH hS => ?_)
    refine lv_pop hx hb dJ0_checkIndex_df160_8 rfl ?_
    exact h_vret C hr hlk hH hS rfl dJ0_checkIndex_df160_9
  · refine va_gets hx hb hZ hS.1 C.2.2.2.1 (C.2.2.2.2.1 _ (tg wd_164 rfl)) (fun _ h => h) dJ0_checkIndex_df160_2 ?_
    refine cSi (as := [.int a, .int b, .ref t]) (rest := []) (c_pcheck h0 h1 (Or.inr ⟨t, rfl⟩)) C hl.1 hH hS rfl wd_167 mw_J3_checkIndex_8e157 wd_166 rfl (rm_ok (by decide) (by decide)) (Nat.le_of_ble_eq_true rfl) ⟨Nat.zero_le _, Nat.zero_le _⟩ dJ0_checkIndex_df160_5 (fun H locs hH hS => ?_)
    refine lv_pop hx hb dJ0_checkIndex_df160_8 rfl ?_
    exact h_vret C hr hlk hH hS rfl dJ0_checkIndex_df160_9
def scc (k j : Nat) : Int32 := (sb k).getD j 0 &&& 255
theorem c_lcharAt (hX : ∀ U : State, wE ω U → EF X (wA ω) U) {k j : Nat} (hk : k < 2) (hj : j < sl k) : Con l yJ1_charAt_3b067 cJ1_charAt_3b067 2 (some .char) 3 ω [.ref (X (5 + k)), .int (nI j)] μ (some (.int (scc k j))) μ := by
  have hs : sl k ≤ 115 := by
    match k, hk with
    | 0, _ => decide
    | 1, _ => decide
  refine con_of (by decide) (Nat.le_of_ble_eq_true rfl) (fun p e s m args below meth c ls C hr hlk hl hH hS => ?_)
  have hx := C.1
  have hb := C.2.1
  have hE := hX s C.2.2.2.2.2.2.1
  refine lv_iload_n hx hb dJ1_charAt_3b067_0 rfl (lv_at hl 1 rfl) ?_
  refine lv_aload_n hx hb dJ1_charAt_3b067_1 rfl (lv_at hl 0 rfl) ?_
  refine h_blen hE hk C hS dJ1_charAt_3b067_2 ?_
  refine cSv (as := [.int (nI j), .int (nI (sl k))]) (rest := []) (c_check hX (nI_pos (by omega)) (nI_lt hj (by omega))) C hl.1 hH hS rfl wd_162 mw_J0_checkIndex_df160 wd_161 rfl (rm_ok (by decide) (by decide)) (Nat.le_of_ble_eq_true rfl) ⟨Nat.zero_le _, Nat.zero_le _⟩ dJ1_charAt_3b067_3 (fun H locs hH hS => ?_)
  refine lv_aload_n hx hb dJ1_charAt_3b067_6 rfl (lv_at hl 0 rfl) ?_
  refine lv_iload_n hx hb dJ1_charAt_3b067_7 rfl (lv_at hl 1 rfl) ?_
  refine h_bald2 hE hk C hS (i := nI j) (by unfold ix; rw [nI_clamp (by omega)]; simp [nI_pos' (show j < 2 ^ 31 by omega), hj]) dJ1_charAt_3b067_8 ?_
  refine lv_sipush (v := 255) hx hb dJ1_charAt_3b067_9 (by decide) ?_
  refine lv_iand hx hb dJ1_charAt_3b067_12 ?_
  refine lv_i2c (v := _) hx hb dJ1_charAt_3b067_13 rfl ?_
  rw [nI_clamp (show j < 2 ^ 31 by omega), sc_c2]
  exact h_nret C hr hlk hH hS (sc_nar _) rfl dJ1_charAt_3b067_14
theorem c_charAt (hX : ∀ U : State, wE ω U → EF X (wA ω) U) {k j : Nat} (hk : k < 2) (hj : j < sl k) : Con l yJ0_charAt_5068e cJ0_charAt_5068e 2 (some .char) 4 ω [.ref (X (3 + k)), .int (nI j)] μ (some (.int (scc k j))) μ := by
  refine con_of (by decide) (Nat.le_of_ble_eq_true rfl) (fun p e s m args below meth c ls C hr hlk hl hH hS => ?_)
  have hx := C.1
  have hb := C.2.1
  have hE := hX s C.2.2.2.2.2.2.1
  refine lv_aload_n hx hb dJ0_charAt_5068e_0 rfl (lv_at hl 0 rfl) ?_
  refine h_callX (as := []) (rest := []) (c_isLatin1 hX hk) C hl.1 hH hS rfl (x_rcv hE hk hS) wd_156 wd_155 mw_J0_isLatin1_aae02 wd_154 rfl (rm_ok (by decide) (by decide)) (Nat.le_of_ble_eq_true rfl) ⟨Nat.zero_le _, Nat.zero_le _⟩ dJ0_charAt_5068e_1 (fun H locs hH hS => ?_)
  refine lv_if_eq (tgt := 16) hx hb dJ0_charAt_5068e_4 (by decide) (fun hc => absurd hc (by decide)) (fun hc => ?_)
  refine lv_aload_n hx hb dJ0_charAt_5068e_7 rfl (lv_at hl 0 rfl) ?_
  refine h_val hE hk C hS dJ0_charAt_5068e_8 ?_
  refine lv_iload_n hx hb dJ0_charAt_5068e_11 rfl (lv_at hl 1 rfl) ?_
  refine cSi (as := [.ref (X (5 + k)), .int (nI j)]) (rest := []) (c_lcharAt hX hk hj) C hl.1 hH hS rfl wd_159 mw_J1_charAt_3b067 wd_158 rfl (rm_ok (by decide) (by decide)) (Nat.le_of_ble_eq_true rfl) ⟨Nat.zero_le _, Nat.zero_le _⟩ dJ0_charAt_5068e_12 (fun H locs hH hS => ?_)
  exact h_nret C hr hlk hH hS (sc_nar _) rfl dJ0_charAt_5068e_15
theorem c_canEncode {x : Int32} : Con l yJ1_canEncode_9a6ad cJ1_canEncode_9a6ad 1 (some .boolean) 1 ω [.int x] μ (some (.int (if x < 0 then 0 else if 255 < x then 0 else 1))) μ := by
  refine con_of (by decide) (Nat.le_of_ble_eq_true rfl) (fun p e s m args below meth c ls C hr hlk hl hH hS => ?_)
  have hx := C.1
  have hb := C.2.1
  refine lv_iload_n hx hb dJ1_canEncode_9a6ad_0 rfl (lv_at hl 0 rfl) ?_
  refine lv_if_lt (tgt := 15) hx hb dJ1_canEncode_9a6ad_1 (by decide) (fun hc => ?_) (fun hc => ?_)
  · rw [if_pos hc]
    refine lv_iconst (v := 0) hx hb dJ1_canEncode_9a6ad_15 (by decide) ?_
    exact h_nret C hr hlk hH hS rfl rfl dJ1_canEncode_9a6ad_16
  · rw [if_neg hc]
    refine lv_iload_n hx hb dJ1_canEncode_9a6ad_4 rfl (lv_at hl 0 rfl) ?_
    refine lv_sipush (v := 255) hx hb dJ1_canEncode_9a6ad_5 (by decide) ?_
    refine lv_icmp_gt (tgt := 15) hx hb dJ1_canEncode_9a6ad_8 (by decide) (fun hc => ?_) (fun hc => ?_)
    · rw [if_pos hc]
      refine lv_iconst (v := 0) hx hb dJ1_canEncode_9a6ad_15 (by decide) ?_
      exact h_nret C hr hlk hH hS rfl rfl dJ1_canEncode_9a6ad_16
    · rw [if_neg hc]
      refine lv_iconst (v := 1) hx hb dJ1_canEncode_9a6ad_11 (by decide) ?_
      refine lv_goto (tgt := 16) hx hb dJ1_canEncode_9a6ad_12 (by decide) ?_
      exact h_nret C hr hlk hH hS rfl rfl dJ1_canEncode_9a6ad_16
theorem w_ixChar (hX : ∀ U : State, wE ω U → EF X (wA ω) U) {b : Int32} (hlk : meth.locks = false) (hr : meth.sig.returnType = some .int) (C : Cx ω p s m args c cJ1_indexOfChar_4cfef 6 RJ1) (hH : Hd ω μ H) (hS : FS ω s H locs) {v : Int32} : ∀ (n i : Nat) (ls : Array Slot), i + n = 9 → lv_has ls 6 [(5, .int (nI i)), (4, .int b), (0, .ref (X 6)), (3, .int (nI 9))] → v = sigF b (xSIGNS.drop i) i →
    W p l e (rmd 1) s m args below meth c H locs 0 0 (MQ below (QR ω (some (.int v)) μ) args s 0 0 (wA ω)) (F0 m 7 ls []) := by
  have hx := C.1
  have hb := C.2.1
  have hE := hX s C.2.2.2.2.2.2.1
  intro n
  induction n with
  | zero =>
    intro i ls hi hl hv
    have : i = 9 := by omega
    subst this
    subst hv
    refine lv_iload hx hb dJ1_indexOfChar_4cfef_7 (lv_at hl 0 rfl) ?_
    refine lv_iload_n hx hb dJ1_indexOfChar_4cfef_9 rfl (lv_at hl 3 rfl) ?_
    refine lv_icmp_ge (tgt := 31) hx hb dJ1_indexOfChar_4cfef_10 (by decide) (fun hc => ?_) (fun hc => absurd (by decide) hc)
    refine lv_iconst (v := -1) hx hb dJ1_indexOfChar_4cfef_31 (by decide) ?_
    exact h_nret C hr hlk hH hS rfl rfl dJ1_indexOfChar_4cfef_32
  | succ n ih =>
    intro i ls hi hl hv
    have hi9 : i < 9 := by omega
    have hd : xSIGNS.drop i = xSIGNS.getD i 0 :: xSIGNS.drop (i + 1) := by
      match i, hi9 with
      | 0, _ => rfl
      | 1, _ => rfl
      | 2, _ => rfl
      | 3, _ => rfl
      | 4, _ => rfl
      | 5, _ => rfl
      | 6, _ => rfl
      | 7, _ => rfl
      | 8, _ => rfl
    rw [hd, sigF] at hv
    refine lv_iload hx hb dJ1_indexOfChar_4cfef_7 (lv_at hl 0 rfl) ?_
    refine lv_iload_n hx hb dJ1_indexOfChar_4cfef_9 rfl (lv_at hl 3 rfl) ?_
    refine lv_icmp_ge (tgt := 31) hx hb dJ1_indexOfChar_4cfef_10 (by decide) (fun hc => absurd hc (nI_ge hi9 (by omega))) (fun hc => ?_)
    refine lv_aload_n hx hb dJ1_indexOfChar_4cfef_13 rfl (lv_at hl 2 rfl) ?_
    refine lv_iload hx hb dJ1_indexOfChar_4cfef_14 (lv_at hl 0 rfl) ?_
    refine h_bald2 hE (k := 1) (by decide) C hS (i := nI i) (by unfold ix; rw [nI_clamp (by omega)]; simp [nI_pos' (show i < 2 ^ 31 by omega), show i < sl 1 from hi9]) dJ1_indexOfChar_4cfef_16 ?_
    rw [nI_clamp (show i < 2 ^ 31 by omega)]
    refine lv_iload hx hb dJ1_indexOfChar_4cfef_17 (lv_at hl 1 rfl) ?_
    refine lv_icmp_ne (tgt := 25) hx hb dJ1_indexOfChar_4cfef_19 (by decide) (fun hc => ?_) (fun hc => ?_)
    · have hc : ¬ xSIGNS.getD i 0 = b := hc
      rw [if_neg hc] at hv
      refine lv_iinc (v := nI (i + 1)) (lv' := [(5, .int (nI (i + 1))), (4, .int b), (0, .ref (X 6)), (3, .int (nI 9))]) hx hb dJ1_indexOfChar_4cfef_25 hl (k := 0) rfl (nI_1 i) (by decide) rfl (fun ls hl => ?_)
      refine lv_goto (tgt := 7) hx hb dJ1_indexOfChar_4cfef_28 (by decide) ?_
      exact ih (i + 1) ls (by omega) hl hv
    · have hc : xSIGNS.getD i 0 = b := hc
      rw [if_pos hc] at hv
      subst hv
      refine lv_iload hx hb dJ1_indexOfChar_4cfef_22 (lv_at hl 0 rfl) ?_
      exact h_nret C hr hlk hH hS rfl rfl dJ1_indexOfChar_4cfef_24
theorem c_ixChar (hX : ∀ U : State, wE ω U → EF X (wA ω) U) {x : Int32} : Con l yJ1_indexOfChar_4cfef cJ1_indexOfChar_4cfef 6 (some .int) 1 ω [.ref (X 6), .int x, .int (nI 0), .int (nI 9)] μ (some (.int (sigF x.toInt8.toInt32 xSIGNS 0))) μ := by
  refine con_of (by decide) (Nat.le_of_ble_eq_true rfl) (fun p e s m args below meth c ls C hr hlk hl hH hS => ?_)
  have hx := C.1
  have hb := C.2.1
  refine lv_iload_n hx hb dJ1_indexOfChar_4cfef_0 rfl (lv_at hl 1 rfl) ?_
  refine lv_i2b (v := x.toInt8.toInt32) hx hb dJ1_indexOfChar_4cfef_1 rfl ?_
  refine lv_istore (lv' := [(4, .int x.toInt8.toInt32), (0, .ref (X 6)), (1, .int x), (2, .int (nI 0)), (3, .int (nI 9))]) hx hb dJ1_indexOfChar_4cfef_2 hl (by decide) rfl (fun ls hl => ?_)
  refine lv_iload_n hx hb dJ1_indexOfChar_4cfef_4 rfl (lv_at hl 3 rfl) ?_
  refine lv_istore (lv' := [(5, .int (nI 0)), (4, .int x.toInt8.toInt32), (0, .ref (X 6)), (1, .int x), (2, .int (nI 0)), (3, .int (nI 9))]) hx hb dJ1_indexOfChar_4cfef_5 hl (by decide) rfl (fun ls hl => ?_)
  exact w_ixChar hX hlk hr C hH hS 9 0 ls rfl (lv_sub hl [0, 1, 2, 5] rfl) rfl
theorem c_lix (hX : ∀ U : State, wE ω U → EF X (wA ω) U) {x : Int32} : Con l yJ1_indexOf_4cfef cJ1_indexOf_4cfef 4 (some .int) 2 ω [.ref (X 6), .int x, .int 0, .int (nI 9)] μ (some (.int (if x < 0 then -1 else if 255 < x then -1 else sigF x.toInt8.toInt32 xSIGNS 0))) μ := by
  refine con_of (by decide) (Nat.le_of_ble_eq_true rfl) (fun p e s m args below meth c ls C hr hlk hl hH hS => ?_)
  have hx := C.1
  have hb := C.2.1
  have hE := hX s C.2.2.2.2.2.2.1
  refine lv_iload_n hx hb dJ1_indexOf_4cfef_0 rfl (lv_at hl 1 rfl) ?_
  refine cSi (as := [.int x]) (rest := []) c_canEncode C hl.1 hH hS rfl wd_594 mw_J1_canEncode_9a6ad wd_593 rfl (rm_ok (by decide) (by decide)) (Nat.le_of_ble_eq_true rfl) ⟨Nat.zero_le _, Nat.zero_le _⟩ dJ1_indexOf_4cfef_1 (fun H locs hH hS => ?_)
  have go : ∀ {v : Int32}, v = -1 → W p l e (rmd 2) s m args below meth c H locs 0 0 (MQ below (QR ω (some (.int v)) μ) args s 0 0 (wA ω)) (F0 m 7 ls []) := by
    intro v hv
    subst hv
    refine lv_iconst (v := -1) hx hb dJ1_indexOf_4cfef_7 (by decide) ?_
    exact h_nret C hr hlk hH hS rfl rfl dJ1_indexOf_4cfef_8
  by_cases h0 : x < 0
  · rw [if_pos h0, if_pos h0]
    exact lv_if_ne (tgt := 9) hx hb dJ1_indexOf_4cfef_4 (by decide) (fun hc => absurd rfl hc) (fun hc => go rfl)
  · rw [if_neg h0, if_neg h0]
    by_cases h1 : 255 < x
    · rw [if_pos h1, if_pos h1]
      exact lv_if_ne (tgt := 9) hx hb dJ1_indexOf_4cfef_4 (by decide) (fun hc => absurd rfl hc) (fun hc => go rfl)
    · rw [if_neg h1, if_neg h1]
      refine lv_if_ne (tgt := 9) hx hb dJ1_indexOf_4cfef_4 (by decide) (fun hc => ?_) (fun hc => absurd hc (by decide))
      refine lv_iload_n hx hb dJ1_indexOf_4cfef_9 rfl (lv_at hl 2 rfl) ?_
      refine lv_iconst (v := 0) hx hb dJ1_indexOf_4cfef_10 (by decide) ?_
      refine h_mmax C hl.1 wd_596 (rest := []) (Nat.le_of_ble_eq_true rfl) (Nat.le_of_ble_eq_true rfl) ⟨Nat.zero_le _, Nat.zero_le _⟩ dJ1_indexOf_4cfef_11 ?_
      refine h_topi (y := nI 0) rfl ?_
      refine lv_istore_n (lv' := [(2, .int (nI 0)), (0, .ref (X 6)), (1, .int x), (3, .int (nI 9))]) hx hb dJ1_indexOf_4cfef_14 rfl hl (by decide) rfl (fun ls hl => ?_)
      refine lv_iload_n hx hb dJ1_indexOf_4cfef_15 rfl (lv_at hl 3 rfl) ?_
      refine lv_aload_n hx hb dJ1_indexOf_4cfef_16 rfl (lv_at hl 1 rfl) ?_
      refine h_blen hE (k := 1) (by decide) C hS dJ1_indexOf_4cfef_17 ?_
      refine h_mmin C hl.1 wd_599 (rest := []) (Nat.le_of_ble_eq_true rfl) (Nat.le_of_ble_eq_true rfl) ⟨Nat.zero_le _, Nat.zero_le _⟩ dJ1_indexOf_4cfef_18 ?_
      refine h_topi (y := nI 9) rfl ?_
      refine lv_istore_n (lv' := [(3, .int (nI 9)), (2, .int (nI 0)), (0, .ref (X 6)), (1, .int x)]) hx hb dJ1_indexOf_4cfef_21 rfl hl (by decide) rfl (fun ls hl => ?_)
      refine lv_iload_n hx hb dJ1_indexOf_4cfef_22 rfl (lv_at hl 1 rfl) ?_
      refine lv_iload_n hx hb dJ1_indexOf_4cfef_23 rfl (lv_at hl 0 rfl) ?_
      refine lv_icmp_lt (tgt := 29) hx hb dJ1_indexOf_4cfef_24 (by decide) (fun hc => ?_) (fun hc => absurd (by decide) hc)
      refine lv_aload_n hx hb dJ1_indexOf_4cfef_29 rfl (lv_at hl 2 rfl) ?_
      refine lv_iload_n hx hb dJ1_indexOf_4cfef_30 rfl (lv_at hl 3 rfl) ?_
      refine lv_iload_n hx hb dJ1_indexOf_4cfef_31 rfl (lv_at hl 1 rfl) ?_
      refine lv_iload_n hx hb dJ1_indexOf_4cfef_32 rfl (lv_at hl 0 rfl) ?_
      refine cSi (as := [.ref (X 6), .int x, .int (nI 0), .int (nI 9)]) (rest := []) (c_ixChar hX) C hl.1 hH hS rfl wd_603 mw_J1_indexOfChar_4cfef wd_602 rfl (rm_ok (by decide) (by decide)) (Nat.le_of_ble_eq_true rfl) ⟨Nat.zero_le _, Nat.zero_le _⟩ dJ1_indexOf_4cfef_33 (fun H locs hH hS => ?_)
      exact h_nret C hr hlk hH hS rfl rfl dJ1_indexOf_4cfef_36
theorem c_ix2 (hX : ∀ U : State, wE ω U → EF X (wA ω) U) {x : Int32} : Con l yJ0_indexOf_7cf53 cJ0_indexOf_7cf53 3 (some .int) 3 ω [.ref (X 4), .int x, .int 0] μ (some (.int (if x < 0 then -1 else if 255 < x then -1 else sigF x.toInt8.toInt32 xSIGNS 0))) μ := by
  refine con_of (by decide) (Nat.le_of_ble_eq_true rfl) (fun p e s m args below meth c ls C hr hlk hl hH hS => ?_)
  have hx := C.1
  have hb := C.2.1
  have hE := hX s C.2.2.2.2.2.2.1
  refine lv_aload_n hx hb dJ0_indexOf_7cf53_0 rfl (lv_at hl 0 rfl) ?_
  refine h_callX (as := []) (rest := []) (c_isLatin1 hX (k := 1) (by decide)) C hl.1 hH hS rfl (x_rcv hE (k := 1) (by decide) hS) wd_156 wd_155 mw_J0_isLatin1_aae02 wd_154 rfl (rm_ok (by decide) (by decide)) (Nat.le_of_ble_eq_true rfl) ⟨Nat.zero_le _, Nat.zero_le _⟩ dJ0_indexOf_7cf53_1 (fun H locs hH hS => ?_)
  refine lv_if_eq (tgt := 23) hx hb dJ0_indexOf_7cf53_4 (by decide) (fun hc => absurd hc (by decide)) (fun hc => ?_)
  refine lv_aload_n hx hb dJ0_indexOf_7cf53_7 rfl (lv_at hl 0 rfl) ?_
  refine h_val hE (k := 1) (by decide) C hS dJ0_indexOf_7cf53_8 ?_
  refine lv_iload_n hx hb dJ0_indexOf_7cf53_11 rfl (lv_at hl 1 rfl) ?_
  refine lv_iload_n hx hb dJ0_indexOf_7cf53_12 rfl (lv_at hl 2 rfl) ?_
  refine lv_aload_n hx hb dJ0_indexOf_7cf53_13 rfl (lv_at hl 0 rfl) ?_
  refine h_callX (as := []) (rest := [.int 0, .int x, .ref (X 6)]) (c_length hX (k := 1) (by decide)) C hl.1 hH hS rfl (x_rcv hE (k := 1) (by decide) hS) wd_142 wd_141 mw_J0_length_8abf5 wd_589 rfl (rm_ok (by decide) (by decide)) (Nat.le_of_ble_eq_true rfl) ⟨Nat.zero_le _, Nat.zero_le _⟩ dJ0_indexOf_7cf53_14 (fun H locs hH hS => ?_)
  refine cSi (as := [.ref (X 6), .int x, .int 0, .int (nI 9)]) (rest := []) (c_lix hX) C hl.1 hH hS rfl wd_591 mw_J1_indexOf_4cfef wd_590 rfl (rm_ok (by decide) (by decide)) (Nat.le_of_ble_eq_true rfl) ⟨Nat.zero_le _, Nat.zero_le _⟩ dJ0_indexOf_7cf53_17 (fun H locs hH hS => ?_)
  refine lv_goto (tgt := 36) hx hb dJ0_indexOf_7cf53_20 (by decide) ?_
  exact h_nret C hr hlk hH hS rfl rfl dJ0_indexOf_7cf53_36
theorem c_ix1 (hX : ∀ U : State, wE ω U → EF X (wA ω) U) {x rr : Int32} (h : fSIGNS x = some rr) : Con l yJ0_indexOf_0f7a4 cJ0_indexOf_0f7a4 2 (some .int) 4 ω [.ref (X 4), .int x] μ (some (.int rr)) μ := by
  cases h
  refine con_of (by decide) (Nat.le_of_ble_eq_true rfl) (fun p e s m args below meth c ls C hr hlk hl hH hS => ?_)
  have hx := C.1
  have hb := C.2.1
  have hE := hX s C.2.2.2.2.2.2.1
  refine lv_aload_n hx hb dJ0_indexOf_0f7a4_0 rfl (lv_at hl 0 rfl) ?_
  refine lv_iload_n hx hb dJ0_indexOf_0f7a4_1 rfl (lv_at hl 1 rfl) ?_
  refine lv_iconst (v := 0) hx hb dJ0_indexOf_0f7a4_2 (by decide) ?_
  refine h_callX (as := [.int x, .int 0]) (rest := []) (c_ix2 hX) C hl.1 hH hS rfl (x_rcv hE (k := 1) (by decide) hS) wd_587 wd_586 mw_J0_indexOf_7cf53 wd_585 rfl (rm_ok (by decide) (by decide)) (Nat.le_of_ble_eq_true rfl) ⟨Nat.zero_le _, Nat.zero_le _⟩ dJ0_indexOf_0f7a4_3 (fun H locs hH hS => ?_)
  exact h_nret C hr hlk hH hS rfl rfl dJ0_indexOf_0f7a4_6
theorem h_indexOf {x rr : Int32} (hE0 : ∀ U : State, wE ω U → EF X (wA ω) U) (C : Cx ω p s m args c cc nL RX8) (hl : ls.size = nL) (hH : Hd ω μ H) (hS : FS ω s H locs) (hd : 5 ≤ d) (hrest : (rest.map fun v => v.category).sum ≤ 8) (hf : fSIGNS x = some rr) (hdg : decode cc pc = .ok (.invokevirtual 77, 3))
    (kk : ∀ (H1 : Heap) (locs1 : List Loc), Hd ω μ H1 → FS ω s H1 locs1 → W p l e (rmd d) s m args below meth c H1 locs1 0 0 Q (F0 m (pc + 3) ls (.int rr :: rest))) : W p l e (rmd d) s m args below meth c H locs 0 0 Q (F0 m pc ls (.int x :: .ref (X 4) :: rest)) :=
  h_callX (as := [.int x]) (rest := rest) (c_ix1 hE0 hf) C hl hH hS rfl (x_rcv (hE0 s C.2.2.2.2.2.2.1) (k := 1) (by decide) hS) wd_583 wd_582 mw_J0_indexOf_0f7a4 wd_581 rfl (rm_ok hd (by decide)) hrest ⟨Nat.zero_le _, Nat.zero_le _⟩ hdg kk
end JD
