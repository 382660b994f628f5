theorem dJ6_bitCount_0f7a4_0 : decode cJ6_bitCount_0f7a4 0 = .ok (.iload_n 0, 1) := by decide +kernel
theorem dJ6_bitCount_0f7a4_1 : decode cJ6_bitCount_0f7a4 1 = .ok (.iload_n 0, 1) := by decide +kernel
theorem dJ6_bitCount_0f7a4_2 : decode cJ6_bitCount_0f7a4 2 = .ok (.iconst 1, 1) := by decide +kernel
theorem dJ6_bitCount_0f7a4_3 : decode cJ6_bitCount_0f7a4 3 = .ok (.iushr, 1) := by decide +kernel
theorem dJ6_bitCount_0f7a4_4 : decode cJ6_bitCount_0f7a4 4 = .ok (.ldc_w 265, 3) := by decide +kernel
theorem dJ6_bitCount_0f7a4_7 : decode cJ6_bitCount_0f7a4 7 = .ok (.iand, 1) := by decide +kernel
theorem dJ6_bitCount_0f7a4_8 : decode cJ6_bitCount_0f7a4 8 = .ok (.isub, 1) := by decide +kernel
theorem dJ6_bitCount_0f7a4_9 : decode cJ6_bitCount_0f7a4 9 = .ok (.istore_n 0, 1) := by decide +kernel
theorem dJ6_bitCount_0f7a4_10 : decode cJ6_bitCount_0f7a4 10 = .ok (.iload_n 0, 1) := by decide +kernel
theorem dJ6_bitCount_0f7a4_11 : decode cJ6_bitCount_0f7a4 11 = .ok (.ldc_w 266, 3) := by decide +kernel
theorem dJ6_bitCount_0f7a4_14 : decode cJ6_bitCount_0f7a4 14 = .ok (.iand, 1) := by decide +kernel
theorem dJ6_bitCount_0f7a4_15 : decode cJ6_bitCount_0f7a4 15 = .ok (.iload_n 0, 1) := by decide +kernel
theorem dJ6_bitCount_0f7a4_16 : decode cJ6_bitCount_0f7a4 16 = .ok (.iconst 2, 1) := by decide +kernel
theorem dJ6_bitCount_0f7a4_17 : decode cJ6_bitCount_0f7a4 17 = .ok (.iushr, 1) := by decide +kernel
theorem dJ6_bitCount_0f7a4_18 : decode cJ6_bitCount_0f7a4 18 = .ok (.ldc_w 266, 3) := by decide +kernel
theorem dJ6_bitCount_0f7a4_21 : decode cJ6_bitCount_0f7a4 21 = .ok (.iand, 1) := by decide +kernel
theorem dJ6_bitCount_0f7a4_22 : decode cJ6_bitCount_0f7a4 22 = .ok (.iadd, 1) := by decide +kernel
theorem dJ6_bitCount_0f7a4_23 : decode cJ6_bitCount_0f7a4 23 = .ok (.istore_n 0, 1) := by decide +kernel
theorem dJ6_bitCount_0f7a4_24 : decode cJ6_bitCount_0f7a4 24 = .ok (.iload_n 0, 1) := by decide +kernel
theorem dJ6_bitCount_0f7a4_25 : decode cJ6_bitCount_0f7a4 25 = .ok (.iload_n 0, 1) := by decide +kernel
theorem dJ6_bitCount_0f7a4_26 : decode cJ6_bitCount_0f7a4 26 = .ok (.iconst 4, 1) := by decide +kernel
theorem dJ6_bitCount_0f7a4_27 : decode cJ6_bitCount_0f7a4 27 = .ok (.iushr, 1) := by decide +kernel
theorem dJ6_bitCount_0f7a4_28 : decode cJ6_bitCount_0f7a4 28 = .ok (.iadd, 1) := by decide +kernel
theorem dJ6_bitCount_0f7a4_29 : decode cJ6_bitCount_0f7a4 29 = .ok (.ldc_w 267, 3) := by decide +kernel
theorem dJ6_bitCount_0f7a4_32 : decode cJ6_bitCount_0f7a4 32 = .ok (.iand, 1) := by decide +kernel
theorem dJ6_bitCount_0f7a4_33 : decode cJ6_bitCount_0f7a4 33 = .ok (.istore_n 0, 1) := by decide +kernel
theorem dJ6_bitCount_0f7a4_34 : decode cJ6_bitCount_0f7a4 34 = .ok (.iload_n 0, 1) := by decide +kernel
theorem dJ6_bitCount_0f7a4_35 : decode cJ6_bitCount_0f7a4 35 = .ok (.iload_n 0, 1) := by decide +kernel
theorem dJ6_bitCount_0f7a4_36 : decode cJ6_bitCount_0f7a4 36 = .ok (.bipush 8, 2) := by decide +kernel
theorem dJ6_bitCount_0f7a4_38 : decode cJ6_bitCount_0f7a4 38 = .ok (.iushr, 1) := by decide +kernel
theorem dJ6_bitCount_0f7a4_39 : decode cJ6_bitCount_0f7a4 39 = .ok (.iadd, 1) := by decide +kernel
theorem dJ6_bitCount_0f7a4_40 : decode cJ6_bitCount_0f7a4 40 = .ok (.istore_n 0, 1) := by decide +kernel
theorem dJ6_bitCount_0f7a4_41 : decode cJ6_bitCount_0f7a4 41 = .ok (.iload_n 0, 1) := by decide +kernel
theorem dJ6_bitCount_0f7a4_42 : decode cJ6_bitCount_0f7a4 42 = .ok (.iload_n 0, 1) := by decide +kernel
theorem dJ6_bitCount_0f7a4_43 : decode cJ6_bitCount_0f7a4 43 = .ok (.bipush 16, 2) := by decide +kernel
theorem dJ6_bitCount_0f7a4_45 : decode cJ6_bitCount_0f7a4 45 = .ok (.iushr, 1) := by decide +kernel
theorem dJ6_bitCount_0f7a4_46 : decode cJ6_bitCount_0f7a4 46 = .ok (.iadd, 1) := by decide +kernel
theorem dJ6_bitCount_0f7a4_47 : decode cJ6_bitCount_0f7a4 47 = .ok (.istore_n 0, 1) := by decide +kernel
theorem dJ6_bitCount_0f7a4_48 : decode cJ6_bitCount_0f7a4 48 = .ok (.iload_n 0, 1) := by decide +kernel
theorem dJ6_bitCount_0f7a4_49 : decode cJ6_bitCount_0f7a4 49 = .ok (.bipush 63, 2) := by decide +kernel
theorem dJ6_bitCount_0f7a4_51 : decode cJ6_bitCount_0f7a4 51 = .ok (.iand, 1) := by decide +kernel
theorem dJ6_bitCount_0f7a4_52 : decode cJ6_bitCount_0f7a4 52 = .ok (.ireturn, 1) := by decide +kernel
theorem dX0_clearAll_0 : decode cX0_clearAll 0 = .ok (.aload_n 0, 1) := by decide +kernel
theorem dX0_clearAll_1 : decode cX0_clearAll 1 = .ok (.iconst 0, 1) := by decide +kernel
theorem dX0_clearAll_2 : decode cX0_clearAll 2 = .ok (.putfield 31, 3) := by decide +kernel
theorem dX0_clearAll_5 : decode cX0_clearAll 5 = .ok (.iconst 0, 1) := by decide +kernel
theorem dX0_clearAll_6 : decode cX0_clearAll 6 = .ok (.istore_n 1, 1) := by decide +kernel
theorem dX0_clearAll_7 : decode cX0_clearAll 7 = .ok (.iload_n 1, 1) := by decide +kernel
theorem dX0_clearAll_8 : decode cX0_clearAll 8 = .ok (.iconst 3, 1) := by decide +kernel
theorem dX0_clearAll_9 : decode cX0_clearAll 9 = .ok (.if_icmp .ge 16, 3) := by decide +kernel
theorem dX0_clearAll_12 : decode cX0_clearAll 12 = .ok (.aload_n 0, 1) := by decide +kernel
theorem dX0_clearAll_13 : decode cX0_clearAll 13 = .ok (.getfield 19, 3) := by decide +kernel
theorem dX0_clearAll_16 : decode cX0_clearAll 16 = .ok (.iload_n 1, 1) := by decide +kernel
theorem dX0_clearAll_17 : decode cX0_clearAll 17 = .ok (.iconst 0, 1) := by decide +kernel
theorem dX0_clearAll_18 : decode cX0_clearAll 18 = .ok (.bastore, 1) := by decide +kernel
theorem dX0_clearAll_19 : decode cX0_clearAll 19 = .ok (.iinc 1 1, 3) := by decide +kernel
theorem dX0_clearAll_22 : decode cX0_clearAll 22 = .ok (.goto (-15), 3) := by decide +kernel
theorem dX0_clearAll_25 : decode cX0_clearAll 25 = .ok (.return_, 1) := by decide +kernel
theorem dX7_copyFrom_0 : decode cX7_copyFrom 0 = .ok (.aload_n 1, 1) := by decide +kernel
theorem dX7_copyFrom_1 : decode cX7_copyFrom 1 = .ok (.getfield 11, 3) := by decide +kernel
theorem dX7_copyFrom_4 : decode cX7_copyFrom 4 = .ok (.iconst 0, 1) := by decide +kernel
theorem dX7_copyFrom_5 : decode cX7_copyFrom 5 = .ok (.aload_n 0, 1) := by decide +kernel
theorem dX7_copyFrom_6 : decode cX7_copyFrom 6 = .ok (.getfield 11, 3) := by decide +kernel
theorem dX7_copyFrom_9 : decode cX7_copyFrom 9 = .ok (.iconst 0, 1) := by decide +kernel
theorem dX7_copyFrom_10 : decode cX7_copyFrom 10 = .ok (.aload_n 0, 1) := by decide +kernel
theorem dX7_copyFrom_11 : decode cX7_copyFrom 11 = .ok (.getfield 11, 3) := by decide +kernel
theorem dX7_copyFrom_14 : decode cX7_copyFrom 14 = .ok (.arraylength, 1) := by decide +kernel
theorem dX7_copyFrom_15 : decode cX7_copyFrom 15 = .ok (.invokestatic 15, 3) := by decide +kernel
theorem dX7_copyFrom_18 : decode cX7_copyFrom 18 = .ok (.aload_n 0, 1) := by decide +kernel
theorem dX7_copyFrom_19 : decode cX7_copyFrom 19 = .ok (.aload_n 1, 1) := by decide +kernel
theorem dX7_copyFrom_20 : decode cX7_copyFrom 20 = .ok (.getfield 21, 3) := by decide +kernel
theorem dX7_copyFrom_23 : decode cX7_copyFrom 23 = .ok (.putfield 21, 3) := by decide +kernel
theorem dX7_copyFrom_26 : decode cX7_copyFrom 26 = .ok (.aload_n 0, 1) := by decide +kernel
theorem dX7_copyFrom_27 : decode cX7_copyFrom 27 = .ok (.aload_n 1, 1) := by decide +kernel
theorem dX7_copyFrom_28 : decode cX7_copyFrom 28 = .ok (.getfield 25, 3) := by decide +kernel
theorem dX7_copyFrom_31 : decode cX7_copyFrom 31 = .ok (.putfield 25, 3) := by decide +kernel
theorem dX7_copyFrom_34 : decode cX7_copyFrom 34 = .ok (.aload_n 0, 1) := by decide +kernel
theorem dX7_copyFrom_35 : decode cX7_copyFrom 35 = .ok (.aload_n 1, 1) := by decide +kernel
theorem dX7_copyFrom_36 : decode cX7_copyFrom 36 = .ok (.getfield 28, 3) := by decide +kernel
theorem dX7_copyFrom_39 : decode cX7_copyFrom 39 = .ok (.putfield 28, 3) := by decide +kernel
theorem dX7_copyFrom_42 : decode cX7_copyFrom 42 = .ok (.aload_n 0, 1) := by decide +kernel
theorem dX7_copyFrom_43 : decode cX7_copyFrom 43 = .ok (.aload_n 1, 1) := by decide +kernel
theorem dX7_copyFrom_44 : decode cX7_copyFrom 44 = .ok (.getfield 31, 3) := by decide +kernel
theorem dX7_copyFrom_47 : decode cX7_copyFrom 47 = .ok (.putfield 31, 3) := by decide +kernel
theorem dX7_copyFrom_50 : decode cX7_copyFrom 50 = .ok (.return_, 1) := by decide +kernel
theorem dX0_fetch_0 : decode cX0_fetch 0 = .ok (.iload_n 1, 1) := by decide +kernel
theorem dX0_fetch_1 : decode cX0_fetch 1 = .ok (.ifCond .lt 17, 3) := by decide +kernel
theorem dX0_fetch_4 : decode cX0_fetch 4 = .ok (.iload_n 1, 1) := by decide +kernel
theorem dX0_fetch_5 : decode cX0_fetch 5 = .ok (.iconst 3, 1) := by decide +kernel
theorem dX0_fetch_6 : decode cX0_fetch 6 = .ok (.if_icmp .ge 12, 3) := by decide +kernel
theorem dX0_fetch_9 : decode cX0_fetch 9 = .ok (.aload_n 0, 1) := by decide +kernel
theorem dX0_fetch_10 : decode cX0_fetch 10 = .ok (.getfield 19, 3) := by decide +kernel
theorem dX0_fetch_13 : decode cX0_fetch 13 = .ok (.iload_n 1, 1) := by decide +kernel
theorem dX0_fetch_14 : decode cX0_fetch 14 = .ok (.baload, 1) := by decide +kernel
theorem dX0_fetch_15 : decode cX0_fetch 15 = .ok (.ifCond .ne 5, 3) := by decide +kernel
theorem dX0_fetch_18 : decode cX0_fetch 18 = .ok (.iconst 0, 1) := by decide +kernel
theorem dX0_fetch_19 : decode cX0_fetch 19 = .ok (.ireturn, 1) := by decide +kernel
theorem dX0_fetch_20 : decode cX0_fetch 20 = .ok (.aload_n 2, 1) := by decide +kernel
theorem dX0_fetch_21 : decode cX0_fetch 21 = .ok (.aload_n 0, 1) := by decide +kernel
theorem dX0_fetch_22 : decode cX0_fetch 22 = .ok (.getfield 16, 3) := by decide +kernel
theorem dX0_fetch_25 : decode cX0_fetch 25 = .ok (.iload_n 1, 1) := by decide +kernel
theorem dX0_fetch_26 : decode cX0_fetch 26 = .ok (.aaload, 1) := by decide +kernel
theorem dX0_fetch_27 : decode cX0_fetch 27 = .ok (.invokevirtual 27, 3) := by decide +kernel
theorem dX0_fetch_30 : decode cX0_fetch 30 = .ok (.aload_n 0, 1) := by decide +kernel
theorem dX0_fetch_31 : decode cX0_fetch 31 = .ok (.iconst 0, 1) := by decide +kernel
theorem dX0_fetch_32 : decode cX0_fetch 32 = .ok (.putfield 31, 3) := by decide +kernel
theorem dX0_fetch_35 : decode cX0_fetch 35 = .ok (.iconst 1, 1) := by decide +kernel
theorem dX0_fetch_36 : decode cX0_fetch 36 = .ok (.ireturn, 1) := by decide +kernel
theorem dX0_heldSlots_0 : decode cX0_heldSlots 0 = .ok (.iconst 0, 1) := by decide +kernel
theorem dX0_heldSlots_1 : decode cX0_heldSlots 1 = .ok (.istore_n 1, 1) := by decide +kernel
theorem dX0_heldSlots_2 : decode cX0_heldSlots 2 = .ok (.iconst 0, 1) := by decide +kernel
theorem dX0_heldSlots_3 : decode cX0_heldSlots 3 = .ok (.istore_n 2, 1) := by decide +kernel
theorem dX0_heldSlots_4 : decode cX0_heldSlots 4 = .ok (.iload_n 2, 1) := by decide +kernel
theorem dX0_heldSlots_5 : decode cX0_heldSlots 5 = .ok (.iconst 3, 1) := by decide +kernel
theorem dX0_heldSlots_6 : decode cX0_heldSlots 6 = .ok (.if_icmp .ge 21, 3) := by decide +kernel
theorem dX0_heldSlots_9 : decode cX0_heldSlots 9 = .ok (.aload_n 0, 1) := by decide +kernel
theorem dX0_heldSlots_10 : decode cX0_heldSlots 10 = .ok (.getfield 19, 3) := by decide +kernel
theorem dX0_heldSlots_13 : decode cX0_heldSlots 13 = .ok (.iload_n 2, 1) := by decide +kernel
theorem dX0_heldSlots_14 : decode cX0_heldSlots 14 = .ok (.baload, 1) := by decide +kernel
theorem dX0_heldSlots_15 : decode cX0_heldSlots 15 = .ok (.ifCond .eq 6, 3) := by decide +kernel
theorem dX0_heldSlots_18 : decode cX0_heldSlots 18 = .ok (.iinc 1 1, 3) := by decide +kernel
theorem dX0_heldSlots_21 : decode cX0_heldSlots 21 = .ok (.iinc 2 1, 3) := by decide +kernel
theorem dX0_heldSlots_24 : decode cX0_heldSlots 24 = .ok (.goto (-20), 3) := by decide +kernel
theorem dX0_heldSlots_27 : decode cX0_heldSlots 27 = .ok (.iload_n 1, 1) := by decide +kernel
theorem dX0_heldSlots_28 : decode cX0_heldSlots 28 = .ok (.ireturn, 1) := by decide +kernel
theorem dX0_keep_0 : decode cX0_keep 0 = .ok (.iload_n 1, 1) := by decide +kernel
theorem dX0_keep_1 : decode cX0_keep 1 = .ok (.ifCond .lt 8, 3) := by decide +kernel
theorem dX0_keep_4 : decode cX0_keep 4 = .ok (.iload_n 1, 1) := by decide +kernel
theorem dX0_keep_5 : decode cX0_keep 5 = .ok (.iconst 3, 1) := by decide +kernel
theorem dX0_keep_6 : decode cX0_keep 6 = .ok (.if_icmp .lt 5, 3) := by decide +kernel
theorem dX0_keep_9 : decode cX0_keep 9 = .ok (.iconst 0, 1) := by decide +kernel
theorem dX0_keep_10 : decode cX0_keep 10 = .ok (.ireturn, 1) := by decide +kernel
theorem dX0_keep_11 : decode cX0_keep 11 = .ok (.aload_n 0, 1) := by decide +kernel
theorem dX0_keep_12 : decode cX0_keep 12 = .ok (.getfield 16, 3) := by decide +kernel
theorem dX0_keep_15 : decode cX0_keep 15 = .ok (.iload_n 1, 1) := by decide +kernel
theorem dX0_keep_16 : decode cX0_keep 16 = .ok (.aaload, 1) := by decide +kernel
theorem dX0_keep_17 : decode cX0_keep 17 = .ok (.aload_n 2, 1) := by decide +kernel
theorem dX0_keep_18 : decode cX0_keep 18 = .ok (.invokevirtual 27, 3) := by decide +kernel
theorem dX0_keep_21 : decode cX0_keep 21 = .ok (.aload_n 0, 1) := by decide +kernel
theorem dX0_keep_22 : decode cX0_keep 22 = .ok (.getfield 19, 3) := by decide +kernel
theorem dX0_keep_25 : decode cX0_keep 25 = .ok (.iload_n 1, 1) := by decide +kernel
theorem dX0_keep_26 : decode cX0_keep 26 = .ok (.iconst 1, 1) := by decide +kernel
theorem dX0_keep_27 : decode cX0_keep 27 = .ok (.bastore, 1) := by decide +kernel
theorem dX0_keep_28 : decode cX0_keep 28 = .ok (.iconst 1, 1) := by decide +kernel
theorem dX0_keep_29 : decode cX0_keep 29 = .ok (.ireturn, 1) := by decide +kernel
theorem dX0_pop_0 : decode cX0_pop 0 = .ok (.aload_n 0, 1) := by decide +kernel
theorem dX0_pop_1 : decode cX0_pop 1 = .ok (.getfield 31, 3) := by decide +kernel
theorem dX0_pop_4 : decode cX0_pop 4 = .ok (.iconst 1, 1) := by decide +kernel
theorem dX0_pop_5 : decode cX0_pop 5 = .ok (.if_icmp .ge 5, 3) := by decide +kernel
theorem dX0_pop_8 : decode cX0_pop 8 = .ok (.iconst 0, 1) := by decide +kernel
theorem dX0_pop_9 : decode cX0_pop 9 = .ok (.ireturn, 1) := by decide +kernel
theorem dX0_pop_10 : decode cX0_pop 10 = .ok (.aload_n 1, 1) := by decide +kernel
theorem dX0_pop_11 : decode cX0_pop 11 = .ok (.aload_n 0, 1) := by decide +kernel
theorem dX0_pop_12 : decode cX0_pop 12 = .ok (.getfield 11, 3) := by decide +kernel
theorem dX0_pop_15 : decode cX0_pop 15 = .ok (.aload_n 0, 1) := by decide +kernel
theorem dX0_pop_16 : decode cX0_pop 16 = .ok (.getfield 23, 3) := by decide +kernel
theorem dX0_pop_19 : decode cX0_pop 19 = .ok (.aaload, 1) := by decide +kernel
theorem dX0_pop_20 : decode cX0_pop 20 = .ok (.invokevirtual 27, 3) := by decide +kernel
theorem dX0_pop_23 : decode cX0_pop 23 = .ok (.aload_n 0, 1) := by decide +kernel
theorem dX0_pop_24 : decode cX0_pop 24 = .ok (.aload_n 0, 1) := by decide +kernel
theorem dX0_pop_25 : decode cX0_pop 25 = .ok (.getfield 23, 3) := by decide +kernel
theorem dX0_pop_28 : decode cX0_pop 28 = .ok (.ifCond .le 12, 3) := by decide +kernel
theorem dX0_pop_31 : decode cX0_pop 31 = .ok (.aload_n 0, 1) := by decide +kernel
theorem dX0_pop_32 : decode cX0_pop 32 = .ok (.getfield 23, 3) := by decide +kernel
theorem dX0_pop_35 : decode cX0_pop 35 = .ok (.iconst 1, 1) := by decide +kernel
theorem dX0_pop_36 : decode cX0_pop 36 = .ok (.isub, 1) := by decide +kernel
theorem dX0_pop_37 : decode cX0_pop 37 = .ok (.goto 5, 3) := by decide +kernel
theorem dX0_pop_40 : decode cX0_pop 40 = .ok (.bipush 39, 2) := by decide +kernel
theorem dX0_pop_42 : decode cX0_pop 42 = .ok (.putfield 23, 3) := by decide +kernel
theorem dX0_pop_45 : decode cX0_pop 45 = .ok (.aload_n 0, 1) := by decide +kernel
theorem dX0_pop_46 : decode cX0_pop 46 = .ok (.dup, 1) := by decide +kernel
theorem dX0_pop_47 : decode cX0_pop 47 = .ok (.getfield 31, 3) := by decide +kernel
theorem dX0_pop_50 : decode cX0_pop 50 = .ok (.iconst 1, 1) := by decide +kernel
theorem dX0_pop_51 : decode cX0_pop 51 = .ok (.isub, 1) := by decide +kernel
theorem dX0_pop_52 : decode cX0_pop 52 = .ok (.putfield 31, 3) := by decide +kernel
theorem dX0_pop_55 : decode cX0_pop 55 = .ok (.iconst 1, 1) := by decide +kernel
theorem dX0_pop_56 : decode cX0_pop 56 = .ok (.ireturn, 1) := by decide +kernel
theorem dX0_push_0 : decode cX0_push 0 = .ok (.aload_n 0, 1) := by decide +kernel
theorem dX0_push_1 : decode cX0_push 1 = .ok (.aload_n 0, 1) := by decide +kernel
theorem dX0_push_2 : decode cX0_push 2 = .ok (.getfield 23, 3) := by decide +kernel
theorem dX0_push_5 : decode cX0_push 5 = .ok (.iconst 1, 1) := by decide +kernel
theorem dX0_push_6 : decode cX0_push 6 = .ok (.iadd, 1) := by decide +kernel
theorem dX0_push_7 : decode cX0_push 7 = .ok (.bipush 40, 2) := by decide +kernel
theorem dX0_push_9 : decode cX0_push 9 = .ok (.if_icmp .ge 12, 3) := by decide +kernel
theorem dX0_push_12 : decode cX0_push 12 = .ok (.aload_n 0, 1) := by decide +kernel
theorem dX0_push_13 : decode cX0_push 13 = .ok (.getfield 23, 3) := by decide +kernel
theorem dX0_push_16 : decode cX0_push 16 = .ok (.iconst 1, 1) := by decide +kernel
theorem dX0_push_17 : decode cX0_push 17 = .ok (.iadd, 1) := by decide +kernel
theorem dX0_push_18 : decode cX0_push 18 = .ok (.goto 4, 3) := by decide +kernel
theorem dX0_push_21 : decode cX0_push 21 = .ok (.iconst 0, 1) := by decide +kernel
theorem dX0_push_22 : decode cX0_push 22 = .ok (.putfield 23, 3) := by decide +kernel
theorem dX0_push_25 : decode cX0_push 25 = .ok (.aload_n 0, 1) := by decide +kernel
theorem dX0_push_26 : decode cX0_push 26 = .ok (.getfield 11, 3) := by decide +kernel
theorem dX0_push_29 : decode cX0_push 29 = .ok (.aload_n 0, 1) := by decide +kernel
theorem dX0_push_30 : decode cX0_push 30 = .ok (.getfield 23, 3) := by decide +kernel
theorem dX0_push_33 : decode cX0_push 33 = .ok (.aaload, 1) := by decide +kernel
theorem dX0_push_34 : decode cX0_push 34 = .ok (.aload_n 1, 1) := by decide +kernel
theorem dX0_push_35 : decode cX0_push 35 = .ok (.invokevirtual 27, 3) := by decide +kernel
theorem dX0_push_38 : decode cX0_push 38 = .ok (.aload_n 0, 1) := by decide +kernel
theorem dX0_push_39 : decode cX0_push 39 = .ok (.bipush 40, 2) := by decide +kernel
theorem dX0_push_41 : decode cX0_push 41 = .ok (.aload_n 0, 1) := by decide +kernel
theorem dX0_push_42 : decode cX0_push 42 = .ok (.getfield 31, 3) := by decide +kernel
theorem dX0_push_45 : decode cX0_push 45 = .ok (.iconst 1, 1) := by decide +kernel
theorem dX0_push_46 : decode cX0_push 46 = .ok (.iadd, 1) := by decide +kernel
theorem dX0_push_47 : decode cX0_push 47 = .ok (.invokestatic 34, 3) := by decide +kernel
theorem dX0_push_50 : decode cX0_push 50 = .ok (.putfield 31, 3) := by decide +kernel
theorem dX0_push_53 : decode cX0_push 53 = .ok (.return_, 1) := by decide +kernel
theorem dX3_number_0 : decode cX3_number 0 = .ok (.iload_n 1, 1) := by decide +kernel
theorem dX3_number_1 : decode cX3_number 1 = .ok (.iconst 5, 1) := by decide +kernel
theorem dX3_number_2 : decode cX3_number 2 = .ok (.imul, 1) := by decide +kernel
theorem dX3_number_3 : decode cX3_number 3 = .ok (.iload_n 2, 1) := by decide +kernel
theorem dX3_number_4 : decode cX3_number 4 = .ok (.iadd, 1) := by decide +kernel
theorem dX3_number_5 : decode cX3_number 5 = .ok (.istore_n 3, 1) := by decide +kernel
theorem dX3_number_6 : decode cX3_number 6 = .ok (.iload_n 3, 1) := by decide +kernel
theorem dX3_number_7 : decode cX3_number 7 = .ok (.ifCond .lt 21, 3) := by decide +kernel
theorem dX3_number_10 : decode cX3_number 10 = .ok (.iload_n 3, 1) := by decide +kernel
theorem dX3_number_11 : decode cX3_number 11 = .ok (.aload_n 0, 1) := by decide +kernel
theorem dX3_number_12 : decode cX3_number 12 = .ok (.getfield 11, 3) := by decide +kernel
theorem dX3_number_15 : decode cX3_number 15 = .ok (.arraylength, 1) := by decide +kernel
theorem dX3_number_16 : decode cX3_number 16 = .ok (.if_icmp .ge 12, 3) := by decide +kernel
theorem dX3_number_19 : decode cX3_number 19 = .ok (.aload_n 0, 1) := by decide +kernel
theorem dX3_number_20 : decode cX3_number 20 = .ok (.getfield 11, 3) := by decide +kernel
theorem dX3_number_23 : decode cX3_number 23 = .ok (.iload_n 3, 1) := by decide +kernel
theorem dX3_number_24 : decode cX3_number 24 = .ok (.iaload, 1) := by decide +kernel
theorem dX3_number_25 : decode cX3_number 25 = .ok (.goto 4, 3) := by decide +kernel
theorem dX3_number_28 : decode cX3_number 28 = .ok (.iconst 0, 1) := by decide +kernel
theorem dX3_number_29 : decode cX3_number 29 = .ok (.ireturn, 1) := by decide +kernel
theorem dX3_xOf_0 : decode cX3_xOf 0 = .ok (.aload_n 0, 1) := by decide +kernel
theorem dX3_xOf_1 : decode cX3_xOf 1 = .ok (.iload_n 1, 1) := by decide +kernel
theorem dX3_xOf_2 : decode cX3_xOf 2 = .ok (.iconst 3, 1) := by decide +kernel
theorem dX3_xOf_3 : decode cX3_xOf 3 = .ok (.invokevirtual 58, 3) := by decide +kernel
theorem dX3_xOf_6 : decode cX3_xOf 6 = .ok (.ireturn, 1) := by decide +kernel
theorem dX3_yOf_0 : decode cX3_yOf 0 = .ok (.aload_n 0, 1) := by decide +kernel
theorem dX3_yOf_1 : decode cX3_yOf 1 = .ok (.iload_n 1, 1) := by decide +kernel
theorem dX3_yOf_2 : decode cX3_yOf 2 = .ok (.iconst 4, 1) := by decide +kernel
theorem dX3_yOf_3 : decode cX3_yOf 3 = .ok (.invokevirtual 58, 3) := by decide +kernel
theorem dX3_yOf_6 : decode cX3_yOf 6 = .ok (.ireturn, 1) := by decide +kernel
theorem dX3_distance_0 : decode cX3_distance 0 = .ok (.aload_n 0, 1) := by decide +kernel
theorem dX3_distance_1 : decode cX3_distance 1 = .ok (.iload_n 1, 1) := by decide +kernel
theorem dX3_distance_2 : decode cX3_distance 2 = .ok (.invokevirtual 72, 3) := by decide +kernel
theorem dX3_distance_5 : decode cX3_distance 5 = .ok (.aload_n 0, 1) := by decide +kernel
theorem dX3_distance_6 : decode cX3_distance 6 = .ok (.iload_n 2, 1) := by decide +kernel
theorem dX3_distance_7 : decode cX3_distance 7 = .ok (.invokevirtual 72, 3) := by decide +kernel
theorem dX3_distance_10 : decode cX3_distance 10 = .ok (.isub, 1) := by decide +kernel
theorem dX3_distance_11 : decode cX3_distance 11 = .ok (.invokestatic 76, 3) := by decide +kernel
theorem dX3_distance_14 : decode cX3_distance 14 = .ok (.aload_n 0, 1) := by decide +kernel
theorem dX3_distance_15 : decode cX3_distance 15 = .ok (.iload_n 1, 1) := by decide +kernel
theorem dX3_distance_16 : decode cX3_distance 16 = .ok (.invokevirtual 81, 3) := by decide +kernel
theorem dX3_distance_19 : decode cX3_distance 19 = .ok (.aload_n 0, 1) := by decide +kernel
theorem dX3_distance_20 : decode cX3_distance 20 = .ok (.iload_n 2, 1) := by decide +kernel
theorem dX3_distance_21 : decode cX3_distance 21 = .ok (.invokevirtual 81, 3) := by decide +kernel
theorem dX3_distance_24 : decode cX3_distance 24 = .ok (.isub, 1) := by decide +kernel
theorem dX3_distance_25 : decode cX3_distance 25 = .ok (.invokestatic 76, 3) := by decide +kernel
theorem dX3_distance_28 : decode cX3_distance 28 = .ok (.iadd, 1) := by decide +kernel
theorem dX3_distance_29 : decode cX3_distance 29 = .ok (.ireturn, 1) := by decide +kernel
theorem dX10_goOn_0 : decode cX10_goOn 0 = .ok (.iload_n 2, 1) := by decide +kernel
theorem dX10_goOn_1 : decode cX10_goOn 1 = .ok (.aload_n 1, 1) := by decide +kernel
theorem dX10_goOn_2 : decode cX10_goOn 2 = .ok (.getfield 27, 3) := by decide +kernel
theorem dX10_goOn_5 : decode cX10_goOn 5 = .ok (.if_icmp .ge 9, 3) := by decide +kernel
theorem dX10_goOn_8 : decode cX10_goOn 8 = .ok (.iload_n 2, 1) := by decide +kernel
theorem dX10_goOn_9 : decode cX10_goOn 9 = .ok (.bipush 6, 2) := by decide +kernel
theorem dX10_goOn_11 : decode cX10_goOn 11 = .ok (.if_icmp .lt 34, 3) := by decide +kernel
theorem dX10_goOn_14 : decode cX10_goOn 14 = .ok (.iload 4, 2) := by decide +kernel
theorem dX10_goOn_16 : decode cX10_goOn 16 = .ok (.aload_n 0, 1) := by decide +kernel
theorem dX10_goOn_17 : decode cX10_goOn 17 = .ok (.getfield 19, 3) := by decide +kernel
theorem dX10_goOn_20 : decode cX10_goOn 20 = .ok (.if_icmp .ge 24, 3) := by decide +kernel
theorem dX10_goOn_23 : decode cX10_goOn 23 = .ok (.aload_n 0, 1) := by decide +kernel
theorem dX10_goOn_24 : decode cX10_goOn 24 = .ok (.iload 4, 2) := by decide +kernel
theorem dX10_goOn_26 : decode cX10_goOn 26 = .ok (.putfield 19, 3) := by decide +kernel
theorem dX10_goOn_29 : decode cX10_goOn 29 = .ok (.aload_n 0, 1) := by decide +kernel
theorem dX10_goOn_30 : decode cX10_goOn 30 = .ok (.getfield 9, 3) := by decide +kernel
theorem dX10_goOn_33 : decode cX10_goOn 33 = .ok (.iconst 0, 1) := by decide +kernel
theorem dX10_goOn_34 : decode cX10_goOn 34 = .ok (.aload_n 0, 1) := by decide +kernel
theorem dX10_goOn_35 : decode cX10_goOn 35 = .ok (.getfield 15, 3) := by decide +kernel
theorem dX10_goOn_38 : decode cX10_goOn 38 = .ok (.iconst 0, 1) := by decide +kernel
theorem dX10_goOn_39 : decode cX10_goOn 39 = .ok (.bipush 6, 2) := by decide +kernel
theorem dX10_goOn_41 : decode cX10_goOn 41 = .ok (.invokestatic 32, 3) := by decide +kernel
theorem dX10_goOn_44 : decode cX10_goOn 44 = .ok (.return_, 1) := by decide +kernel
theorem dX10_goOn_45 : decode cX10_goOn 45 = .ok (.iconst 0, 1) := by decide +kernel
theorem dX10_goOn_46 : decode cX10_goOn 46 = .ok (.istore 5, 2) := by decide +kernel
theorem dX10_goOn_48 : decode cX10_goOn 48 = .ok (.iload 5, 2) := by decide +kernel
theorem dX10_goOn_50 : decode cX10_goOn 50 = .ok (.aload_n 1, 1) := by decide +kernel
theorem dX10_goOn_51 : decode cX10_goOn 51 = .ok (.getfield 27, 3) := by decide +kernel
theorem dX10_goOn_54 : decode cX10_goOn 54 = .ok (.if_icmp .ge 57, 3) := by decide +kernel
theorem dX10_goOn_57 : decode cX10_goOn 57 = .ok (.iload_n 3, 1) := by decide +kernel
theorem dX10_goOn_58 : decode cX10_goOn 58 = .ok (.iload 5, 2) := by decide +kernel
theorem dX10_goOn_60 : decode cX10_goOn 60 = .ok (.ishr, 1) := by decide +kernel
theorem dX10_goOn_61 : decode cX10_goOn 61 = .ok (.iconst 1, 1) := by decide +kernel
theorem dX10_goOn_62 : decode cX10_goOn 62 = .ok (.iand, 1) := by decide +kernel
theorem dX10_goOn_63 : decode cX10_goOn 63 = .ok (.ifCond .ne 42, 3) := by decide +kernel
theorem dX10_goOn_66 : decode cX10_goOn 66 = .ok (.aload_n 0, 1) := by decide +kernel
theorem dX10_goOn_67 : decode cX10_goOn 67 = .ok (.getfield 9, 3) := by decide +kernel
theorem dX10_goOn_70 : decode cX10_goOn 70 = .ok (.iload_n 2, 1) := by decide +kernel
theorem dX10_goOn_71 : decode cX10_goOn 71 = .ok (.iload 5, 2) := by decide +kernel
theorem dX10_goOn_73 : decode cX10_goOn 73 = .ok (.iastore, 1) := by decide +kernel
theorem dX10_goOn_74 : decode cX10_goOn 74 = .ok (.aload_n 0, 1) := by decide +kernel
theorem dX10_goOn_75 : decode cX10_goOn 75 = .ok (.aload_n 1, 1) := by decide +kernel
theorem dX10_goOn_76 : decode cX10_goOn 76 = .ok (.iload_n 2, 1) := by decide +kernel
theorem dX10_goOn_77 : decode cX10_goOn 77 = .ok (.iconst 1, 1) := by decide +kernel
theorem dX10_goOn_78 : decode cX10_goOn 78 = .ok (.iadd, 1) := by decide +kernel
theorem dX10_goOn_79 : decode cX10_goOn 79 = .ok (.iload_n 3, 1) := by decide +kernel
theorem dX10_goOn_80 : decode cX10_goOn 80 = .ok (.iconst 1, 1) := by decide +kernel
theorem dX10_goOn_81 : decode cX10_goOn 81 = .ok (.iload 5, 2) := by decide +kernel
theorem dX10_goOn_83 : decode cX10_goOn 83 = .ok (.ishl, 1) := by decide +kernel
theorem dX10_goOn_84 : decode cX10_goOn 84 = .ok (.ior, 1) := by decide +kernel
theorem dX10_goOn_85 : decode cX10_goOn 85 = .ok (.iload 4, 2) := by decide +kernel
theorem dX10_goOn_87 : decode cX10_goOn 87 = .ok (.aload_n 1, 1) := by decide +kernel
theorem dX10_goOn_88 : decode cX10_goOn 88 = .ok (.aload_n 0, 1) := by decide +kernel
theorem dX10_goOn_89 : decode cX10_goOn 89 = .ok (.getfield 9, 3) := by decide +kernel
theorem dX10_goOn_92 : decode cX10_goOn 92 = .ok (.iload_n 2, 1) := by decide +kernel
theorem dX10_goOn_93 : decode cX10_goOn 93 = .ok (.iconst 1, 1) := by decide +kernel
theorem dX10_goOn_94 : decode cX10_goOn 94 = .ok (.isub, 1) := by decide +kernel
theorem dX10_goOn_95 : decode cX10_goOn 95 = .ok (.iaload, 1) := by decide +kernel
theorem dX10_goOn_96 : decode cX10_goOn 96 = .ok (.iload 5, 2) := by decide +kernel
theorem dX10_goOn_98 : decode cX10_goOn 98 = .ok (.invokevirtual 38, 3) := by decide +kernel
theorem dX10_goOn_101 : decode cX10_goOn 101 = .ok (.iadd, 1) := by decide +kernel
theorem dX10_goOn_102 : decode cX10_goOn 102 = .ok (.invokevirtual 23, 3) := by decide +kernel
theorem dX10_goOn_105 : decode cX10_goOn 105 = .ok (.iinc 5 1, 3) := by decide +kernel
theorem dX10_goOn_108 : decode cX10_goOn 108 = .ok (.goto (-60), 3) := by decide +kernel
theorem dX10_goOn_111 : decode cX10_goOn 111 = .ok (.return_, 1) := by decide +kernel
theorem dX10_search_0 : decode cX10_search 0 = .ok (.aload_n 0, 1) := by decide +kernel
theorem dX10_search_1 : decode cX10_search 1 = .ok (.ldc 18, 2) := by decide +kernel
theorem dX10_search_3 : decode cX10_search 3 = .ok (.putfield 19, 3) := by decide +kernel
theorem dX10_search_6 : decode cX10_search 6 = .ok (.aload_n 0, 1) := by decide +kernel
theorem dX10_search_7 : decode cX10_search 7 = .ok (.getfield 9, 3) := by decide +kernel
theorem dX10_search_10 : decode cX10_search 10 = .ok (.iconst 0, 1) := by decide +kernel
theorem dX10_search_11 : decode cX10_search 11 = .ok (.iload_n 2, 1) := by decide +kernel
theorem dX10_search_12 : decode cX10_search 12 = .ok (.iastore, 1) := by decide +kernel
theorem dX10_search_13 : decode cX10_search 13 = .ok (.aload_n 0, 1) := by decide +kernel
theorem dX10_search_14 : decode cX10_search 14 = .ok (.aload_n 1, 1) := by decide +kernel
theorem dX10_search_15 : decode cX10_search 15 = .ok (.iconst 1, 1) := by decide +kernel
theorem dX10_search_16 : decode cX10_search 16 = .ok (.iconst 1, 1) := by decide +kernel
theorem dX10_search_17 : decode cX10_search 17 = .ok (.iload_n 2, 1) := by decide +kernel
theorem dX10_search_18 : decode cX10_search 18 = .ok (.ishl, 1) := by decide +kernel
theorem dX10_search_19 : decode cX10_search 19 = .ok (.iconst 0, 1) := by decide +kernel
theorem dX10_search_20 : decode cX10_search 20 = .ok (.invokevirtual 23, 3) := by decide +kernel
theorem dX10_search_23 : decode cX10_search 23 = .ok (.return_, 1) := by decide +kernel
theorem dX11_back_0 : decode cX11_back 0 = .ok (.iload_n 1, 1) := by decide +kernel
theorem dX11_back_1 : decode cX11_back 1 = .ok (.ifCond .lt 11, 3) := by decide +kernel
theorem dX11_back_4 : decode cX11_back 4 = .ok (.iload_n 1, 1) := by decide +kernel
theorem dX11_back_5 : decode cX11_back 5 = .ok (.aload_n 0, 1) := by decide +kernel
theorem dX11_back_6 : decode cX11_back 6 = .ok (.getfield 99, 3) := by decide +kernel
theorem dX11_back_9 : decode cX11_back 9 = .ok (.if_icmp .le 5, 3) := by decide +kernel
theorem dX11_back_12 : decode cX11_back 12 = .ok (.iconst (-1), 1) := by decide +kernel
theorem dX11_back_13 : decode cX11_back 13 = .ok (.ireturn, 1) := by decide +kernel
theorem dX11_back_14 : decode cX11_back 14 = .ok (.aload_n 0, 1) := by decide +kernel
theorem dX11_back_15 : decode cX11_back 15 = .ok (.dup, 1) := by decide +kernel
theorem dX11_back_16 : decode cX11_back 16 = .ok (.getfield 99, 3) := by decide +kernel
theorem dX11_back_19 : decode cX11_back 19 = .ok (.iload_n 1, 1) := by decide +kernel
theorem dX11_back_20 : decode cX11_back 20 = .ok (.isub, 1) := by decide +kernel
theorem dX11_back_21 : decode cX11_back 21 = .ok (.putfield 99, 3) := by decide +kernel
theorem dX11_back_24 : decode cX11_back 24 = .ok (.aload_n 0, 1) := by decide +kernel
theorem dX11_back_25 : decode cX11_back 25 = .ok (.getfield 99, 3) := by decide +kernel
theorem dX11_back_28 : decode cX11_back 28 = .ok (.ireturn, 1) := by decide +kernel
theorem dX11_bring_0 : decode cX11_bring 0 = .ok (.iload_n 1, 1) := by decide +kernel
theorem dX11_bring_1 : decode cX11_bring 1 = .ok (.iconst 1, 1) := by decide +kernel
theorem dX11_bring_2 : decode cX11_bring 2 = .ok (.if_icmp .lt 9, 3) := by decide +kernel
theorem dX11_bring_5 : decode cX11_bring 5 = .ok (.iload_n 1, 1) := by decide +kernel
theorem dX11_bring_6 : decode cX11_bring 6 = .ok (.bipush 99, 2) := by decide +kernel
theorem dX11_bring_8 : decode cX11_bring 8 = .ok (.if_icmp .le 5, 3) := by decide +kernel
theorem dX11_bring_11 : decode cX11_bring 11 = .ok (.iconst (-1), 1) := by decide +kernel
theorem dX11_bring_12 : decode cX11_bring 12 = .ok (.ireturn, 1) := by decide +kernel
theorem dX11_bring_13 : decode cX11_bring 13 = .ok (.aload_n 0, 1) := by decide +kernel
theorem dX11_bring_14 : decode cX11_bring 14 = .ok (.getfield 48, 3) := by decide +kernel
theorem dX11_bring_17 : decode cX11_bring 17 = .ok (.aload_n 0, 1) := by decide +kernel
theorem dX11_bring_18 : decode cX11_bring 18 = .ok (.getfield 30, 3) := by decide +kernel
theorem dX11_bring_21 : decode cX11_bring 21 = .ok (.invokevirtual 197, 3) := by decide +kernel
theorem dX11_bring_24 : decode cX11_bring 24 = .ok (.aload_n 0, 1) := by decide +kernel
theorem dX11_bring_25 : decode cX11_bring 25 = .ok (.getfield 30, 3) := by decide +kernel
theorem dX11_bring_28 : decode cX11_bring 28 = .ok (.sipush 9999, 3) := by decide +kernel
theorem dX11_bring_31 : decode cX11_bring 31 = .ok (.aload_n 0, 1) := by decide +kernel
theorem dX11_bring_32 : decode cX11_bring 32 = .ok (.getfield 30, 3) := by decide +kernel
theorem dX11_bring_35 : decode cX11_bring 35 = .ok (.getfield 38, 3) := by decide +kernel
theorem dX11_bring_38 : decode cX11_bring 38 = .ok (.iload_n 1, 1) := by decide +kernel
theorem dX11_bring_39 : decode cX11_bring 39 = .ok (.iadd, 1) := by decide +kernel
theorem dX11_bring_40 : decode cX11_bring 40 = .ok (.invokestatic 208, 3) := by decide +kernel
theorem dX11_bring_43 : decode cX11_bring 43 = .ok (.putfield 38, 3) := by decide +kernel
theorem dX11_bring_46 : decode cX11_bring 46 = .ok (.aload_n 0, 1) := by decide +kernel
theorem dX11_bring_47 : decode cX11_bring 47 = .ok (.getfield 30, 3) := by decide +kernel
theorem dX11_bring_50 : decode cX11_bring 50 = .ok (.getfield 38, 3) := by decide +kernel
theorem dX11_bring_53 : decode cX11_bring 53 = .ok (.ireturn, 1) := by decide +kernel
theorem dX11_isHouse_0 : decode cX11_isHouse 0 = .ok (.iload_n 1, 1) := by decide +kernel
theorem dX11_isHouse_1 : decode cX11_isHouse 1 = .ok (.ifCond .lt 18, 3) := by decide +kernel
theorem dX11_isHouse_4 : decode cX11_isHouse 4 = .ok (.iload_n 1, 1) := by decide +kernel
theorem dX11_isHouse_5 : decode cX11_isHouse 5 = .ok (.aload_n 0, 1) := by decide +kernel
theorem dX11_isHouse_6 : decode cX11_isHouse 6 = .ok (.getfield 23, 3) := by decide +kernel
theorem dX11_isHouse_9 : decode cX11_isHouse 9 = .ok (.getfield 158, 3) := by decide +kernel
theorem dX11_isHouse_12 : decode cX11_isHouse 12 = .ok (.if_icmp .ge 7, 3) := by decide +kernel
theorem dX11_isHouse_15 : decode cX11_isHouse 15 = .ok (.iconst 1, 1) := by decide +kernel
theorem dX11_isHouse_16 : decode cX11_isHouse 16 = .ok (.goto 4, 3) := by decide +kernel
theorem dX11_isHouse_19 : decode cX11_isHouse 19 = .ok (.iconst 0, 1) := by decide +kernel
theorem dX11_isHouse_20 : decode cX11_isHouse 20 = .ok (.ireturn, 1) := by decide +kernel
theorem dX7_get_0 : decode cX7_get 0 = .ok (.iload_n 1, 1) := by decide +kernel
theorem dX7_get_1 : decode cX7_get 1 = .ok (.bipush 7, 2) := by decide +kernel
theorem dX7_get_3 : decode cX7_get 3 = .ok (.imul, 1) := by decide +kernel
theorem dX7_get_4 : decode cX7_get 4 = .ok (.iload_n 2, 1) := by decide +kernel
theorem dX7_get_5 : decode cX7_get 5 = .ok (.iadd, 1) := by decide +kernel
theorem dX7_get_6 : decode cX7_get 6 = .ok (.istore_n 3, 1) := by decide +kernel
theorem dX7_get_7 : decode cX7_get 7 = .ok (.iload_n 3, 1) := by decide +kernel
theorem dX7_get_8 : decode cX7_get 8 = .ok (.ifCond .lt 21, 3) := by decide +kernel
theorem dX7_get_11 : decode cX7_get 11 = .ok (.iload_n 3, 1) := by decide +kernel
theorem dX7_get_12 : decode cX7_get 12 = .ok (.aload_n 0, 1) := by decide +kernel
theorem dX7_get_13 : decode cX7_get 13 = .ok (.getfield 11, 3) := by decide +kernel
theorem dX7_get_16 : decode cX7_get 16 = .ok (.arraylength, 1) := by decide +kernel
theorem dX7_get_17 : decode cX7_get 17 = .ok (.if_icmp .ge 12, 3) := by decide +kernel
theorem dX7_get_20 : decode cX7_get 20 = .ok (.aload_n 0, 1) := by decide +kernel
theorem dX7_get_21 : decode cX7_get 21 = .ok (.getfield 11, 3) := by decide +kernel
theorem dX7_get_24 : decode cX7_get 24 = .ok (.iload_n 3, 1) := by decide +kernel
theorem dX7_get_25 : decode cX7_get 25 = .ok (.iaload, 1) := by decide +kernel
theorem dX7_get_26 : decode cX7_get 26 = .ok (.goto 4, 3) := by decide +kernel
theorem dX7_get_29 : decode cX7_get 29 = .ok (.iconst 0, 1) := by decide +kernel
theorem dX7_get_30 : decode cX7_get 30 = .ok (.ireturn, 1) := by decide +kernel
theorem dX1_joined_0 : decode cX1_joined 0 = .ok (.iload_n 0, 1) := by decide +kernel
theorem dX1_joined_1 : decode cX1_joined 1 = .ok (.bipush 10, 2) := by decide +kernel
theorem dX1_joined_3 : decode cX1_joined 3 = .ok (.if_icmp .ne 7, 3) := by decide +kernel
theorem dX1_joined_6 : decode cX1_joined 6 = .ok (.iload_n 1, 1) := by decide +kernel
theorem dX1_joined_7 : decode cX1_joined 7 = .ok (.iload_n 2, 1) := by decide +kernel
theorem dX1_joined_8 : decode cX1_joined 8 = .ok (.iadd, 1) := by decide +kernel
theorem dX1_joined_9 : decode cX1_joined 9 = .ok (.ireturn, 1) := by decide +kernel
theorem dX1_joined_10 : decode cX1_joined 10 = .ok (.iload_n 0, 1) := by decide +kernel
theorem dX1_joined_11 : decode cX1_joined 11 = .ok (.bipush 11, 2) := by decide +kernel
theorem dX1_joined_13 : decode cX1_joined 13 = .ok (.if_icmp .ne 7, 3) := by decide +kernel
theorem dX1_joined_16 : decode cX1_joined 16 = .ok (.iload_n 1, 1) := by decide +kernel
theorem dX1_joined_17 : decode cX1_joined 17 = .ok (.iload_n 2, 1) := by decide +kernel
theorem dX1_joined_18 : decode cX1_joined 18 = .ok (.isub, 1) := by decide +kernel
theorem dX1_joined_19 : decode cX1_joined 19 = .ok (.ireturn, 1) := by decide +kernel
theorem dX1_joined_20 : decode cX1_joined 20 = .ok (.iload_n 0, 1) := by decide +kernel
theorem dX1_joined_21 : decode cX1_joined 21 = .ok (.bipush 12, 2) := by decide +kernel
theorem dX1_joined_23 : decode cX1_joined 23 = .ok (.if_icmp .ne 7, 3) := by decide +kernel
theorem dX1_joined_26 : decode cX1_joined 26 = .ok (.iload_n 1, 1) := by decide +kernel
theorem dX1_joined_27 : decode cX1_joined 27 = .ok (.iload_n 2, 1) := by decide +kernel
theorem dX1_joined_28 : decode cX1_joined 28 = .ok (.imul, 1) := by decide +kernel
theorem dX1_joined_29 : decode cX1_joined 29 = .ok (.ireturn, 1) := by decide +kernel
theorem dX1_joined_30 : decode cX1_joined 30 = .ok (.iload_n 2, 1) := by decide +kernel
theorem dX1_joined_31 : decode cX1_joined 31 = .ok (.ifCond .ne 7, 3) := by decide +kernel
theorem dX1_joined_34 : decode cX1_joined 34 = .ok (.iconst 0, 1) := by decide +kernel
theorem dX1_joined_35 : decode cX1_joined 35 = .ok (.goto 6, 3) := by decide +kernel
theorem dX1_joined_38 : decode cX1_joined 38 = .ok (.iload_n 1, 1) := by decide +kernel
theorem dX1_joined_39 : decode cX1_joined 39 = .ok (.iload_n 2, 1) := by decide +kernel
theorem dX1_joined_40 : decode cX1_joined 40 = .ok (.idiv, 1) := by decide +kernel
theorem dX1_joined_41 : decode cX1_joined 41 = .ok (.ireturn, 1) := by decide +kernel
theorem dX1_valueOf_0 : decode cX1_valueOf 0 = .ok (.iconst 0, 1) := by decide +kernel
theorem dX1_valueOf_1 : decode cX1_valueOf 1 = .ok (.istore 4, 2) := by decide +kernel
theorem dX1_valueOf_3 : decode cX1_valueOf 3 = .ok (.iload_n 1, 1) := by decide +kernel
theorem dX1_valueOf_4 : decode cX1_valueOf 4 = .ok (.ifCond .lt 17, 3) := by decide +kernel
theorem dX1_valueOf_7 : decode cX1_valueOf 7 = .ok (.iload_n 1, 1) := by decide +kernel
theorem dX1_valueOf_8 : decode cX1_valueOf 8 = .ok (.iconst 4, 1) := by decide +kernel
theorem dX1_valueOf_9 : decode cX1_valueOf 9 = .ok (.if_icmp .ge 12, 3) := by decide +kernel
theorem dX1_valueOf_12 : decode cX1_valueOf 12 = .ok (.aload_n 0, 1) := by decide +kernel
theorem dX1_valueOf_13 : decode cX1_valueOf 13 = .ok (.getfield 18, 3) := by decide +kernel
theorem dX1_valueOf_16 : decode cX1_valueOf 16 = .ok (.iload_n 1, 1) := by decide +kernel
theorem dX1_valueOf_17 : decode cX1_valueOf 17 = .ok (.iaload, 1) := by decide +kernel
theorem dX1_valueOf_18 : decode cX1_valueOf 18 = .ok (.goto 7, 3) := by decide +kernel
theorem dX1_valueOf_21 : decode cX1_valueOf 21 = .ok (.aload_n 0, 1) := by decide +kernel
theorem dX1_valueOf_22 : decode cX1_valueOf 22 = .ok (.getfield 27, 3) := by decide +kernel
theorem dX1_valueOf_25 : decode cX1_valueOf 25 = .ok (.istore 5, 2) := by decide +kernel
theorem dX1_valueOf_27 : decode cX1_valueOf 27 = .ok (.iload 5, 2) := by decide +kernel
theorem dX1_valueOf_29 : decode cX1_valueOf 29 = .ok (.istore 6, 2) := by decide +kernel
theorem dX1_valueOf_31 : decode cX1_valueOf 31 = .ok (.iload 6, 2) := by decide +kernel
theorem dX1_valueOf_33 : decode cX1_valueOf 33 = .ok (.aload_n 0, 1) := by decide +kernel
theorem dX1_valueOf_34 : decode cX1_valueOf 34 = .ok (.getfield 27, 3) := by decide +kernel
theorem dX1_valueOf_37 : decode cX1_valueOf 37 = .ok (.if_icmp .ge 228, 3) := by decide +kernel
theorem dX1_valueOf_40 : decode cX1_valueOf 40 = .ok (.aload_n 0, 1) := by decide +kernel
theorem dX1_valueOf_41 : decode cX1_valueOf 41 = .ok (.getfield 11, 3) := by decide +kernel
theorem dX1_valueOf_44 : decode cX1_valueOf 44 = .ok (.iload 6, 2) := by decide +kernel
theorem dX1_valueOf_46 : decode cX1_valueOf 46 = .ok (.iaload, 1) := by decide +kernel
theorem dX1_valueOf_47 : decode cX1_valueOf 47 = .ok (.istore 7, 2) := by decide +kernel
theorem dX1_valueOf_49 : decode cX1_valueOf 49 = .ok (.iload 7, 2) := by decide +kernel
theorem dX1_valueOf_51 : decode cX1_valueOf 51 = .ok (.bipush 9, 2) := by decide +kernel
theorem dX1_valueOf_53 : decode cX1_valueOf 53 = .ok (.if_icmp .gt 78, 3) := by decide +kernel
theorem dX1_valueOf_56 : decode cX1_valueOf 56 = .ok (.iload 4, 2) := by decide +kernel
theorem dX1_valueOf_58 : decode cX1_valueOf 58 = .ok (.bipush 32, 2) := by decide +kernel
theorem dX1_valueOf_60 : decode cX1_valueOf 60 = .ok (.if_icmp .lt 5, 3) := by decide +kernel
theorem dX1_valueOf_63 : decode cX1_valueOf 63 = .ok (.iconst 0, 1) := by decide +kernel
theorem dX1_valueOf_64 : decode cX1_valueOf 64 = .ok (.ireturn, 1) := by decide +kernel
theorem dX1_valueOf_65 : decode cX1_valueOf 65 = .ok (.iload 7, 2) := by decide +kernel
theorem dX1_valueOf_67 : decode cX1_valueOf 67 = .ok (.bipush 7, 2) := by decide +kernel
theorem dX1_valueOf_69 : decode cX1_valueOf 69 = .ok (.if_icmp .ne 10, 3) := by decide +kernel
theorem dX1_valueOf_72 : decode cX1_valueOf 72 = .ok (.aload_n 2, 1) := by decide +kernel
theorem dX1_valueOf_73 : decode cX1_valueOf 73 = .ok (.getfield 47, 3) := by decide +kernel
theorem dX1_valueOf_76 : decode cX1_valueOf 76 = .ok (.goto 21, 3) := by decide +kernel
theorem dX1_valueOf_79 : decode cX1_valueOf 79 = .ok (.iload 7, 2) := by decide +kernel
theorem dX1_valueOf_81 : decode cX1_valueOf 81 = .ok (.bipush 8, 2) := by decide +kernel
theorem dX1_valueOf_83 : decode cX1_valueOf 83 = .ok (.if_icmp .ne 7, 3) := by decide +kernel
theorem dX1_valueOf_86 : decode cX1_valueOf 86 = .ok (.iload_n 3, 1) := by decide +kernel
theorem dX1_valueOf_87 : decode cX1_valueOf 87 = .ok (.goto 10, 3) := by decide +kernel
theorem dX1_valueOf_90 : decode cX1_valueOf 90 = .ok (.aload_n 0, 1) := by decide +kernel
theorem dX1_valueOf_91 : decode cX1_valueOf 91 = .ok (.getfield 15, 3) := by decide +kernel
theorem dX1_valueOf_94 : decode cX1_valueOf 94 = .ok (.iload 6, 2) := by decide +kernel
theorem dX1_valueOf_96 : decode cX1_valueOf 96 = .ok (.iaload, 1) := by decide +kernel
theorem dX1_valueOf_97 : decode cX1_valueOf 97 = .ok (.istore 8, 2) := by decide +kernel
theorem dX1_valueOf_99 : decode cX1_valueOf 99 = .ok (.aload_n 0, 1) := by decide +kernel
theorem dX1_valueOf_100 : decode cX1_valueOf 100 = .ok (.getfield 21, 3) := by decide +kernel
theorem dX1_valueOf_103 : decode cX1_valueOf 103 = .ok (.iload 4, 2) := by decide +kernel
theorem dX1_valueOf_105 : decode cX1_valueOf 105 = .ok (.iload 7, 2) := by decide +kernel
theorem dX1_valueOf_107 : decode cX1_valueOf 107 = .ok (.bipush 7, 2) := by decide +kernel
theorem dX1_valueOf_109 : decode cX1_valueOf 109 = .ok (.if_icmp .ge 13, 3) := by decide +kernel
theorem dX1_valueOf_112 : decode cX1_valueOf 112 = .ok (.aload_n 2, 1) := by decide +kernel
theorem dX1_valueOf_113 : decode cX1_valueOf 113 = .ok (.iload_n 3, 1) := by decide +kernel
theorem dX1_valueOf_114 : decode cX1_valueOf 114 = .ok (.iload 7, 2) := by decide +kernel
theorem dX1_valueOf_116 : decode cX1_valueOf 116 = .ok (.invokevirtual 50, 3) := by decide +kernel
theorem dX1_valueOf_119 : decode cX1_valueOf 119 = .ok (.goto 5, 3) := by decide +kernel
theorem dX1_valueOf_122 : decode cX1_valueOf 122 = .ok (.iload 8, 2) := by decide +kernel
theorem dX1_valueOf_124 : decode cX1_valueOf 124 = .ok (.iastore, 1) := by decide +kernel
theorem dX1_valueOf_125 : decode cX1_valueOf 125 = .ok (.iinc 4 1, 3) := by decide +kernel
theorem dX1_valueOf_128 : decode cX1_valueOf 128 = .ok (.goto 131, 3) := by decide +kernel
theorem dX1_valueOf_131 : decode cX1_valueOf 131 = .ok (.iload 7, 2) := by decide +kernel
theorem dX1_valueOf_133 : decode cX1_valueOf 133 = .ok (.bipush 15, 2) := by decide +kernel
theorem dX1_valueOf_135 : decode cX1_valueOf 135 = .ok (.if_icmp .ne 22, 3) := by decide +kernel
theorem dX1_valueOf_138 : decode cX1_valueOf 138 = .ok (.iload 4, 2) := by decide +kernel
theorem dX1_valueOf_140 : decode cX1_valueOf 140 = .ok (.ifCond .le 15, 3) := by decide +kernel
theorem dX1_valueOf_143 : decode cX1_valueOf 143 = .ok (.aload_n 0, 1) := by decide +kernel
theorem dX1_valueOf_144 : decode cX1_valueOf 144 = .ok (.getfield 21, 3) := by decide +kernel
theorem dX1_valueOf_147 : decode cX1_valueOf 147 = .ok (.iload 4, 2) := by decide +kernel
theorem dX1_valueOf_149 : decode cX1_valueOf 149 = .ok (.iconst 1, 1) := by decide +kernel
theorem dX1_valueOf_150 : decode cX1_valueOf 150 = .ok (.isub, 1) := by decide +kernel
theorem dX1_valueOf_151 : decode cX1_valueOf 151 = .ok (.iaload, 1) := by decide +kernel
theorem dX1_valueOf_152 : decode cX1_valueOf 152 = .ok (.goto 4, 3) := by decide +kernel
theorem dX1_valueOf_155 : decode cX1_valueOf 155 = .ok (.iconst 0, 1) := by decide +kernel
theorem dX1_valueOf_156 : decode cX1_valueOf 156 = .ok (.ireturn, 1) := by decide +kernel
theorem dX1_valueOf_157 : decode cX1_valueOf 157 = .ok (.iload 4, 2) := by decide +kernel
theorem dX1_valueOf_159 : decode cX1_valueOf 159 = .ok (.iconst 2, 1) := by decide +kernel
theorem dX1_valueOf_160 : decode cX1_valueOf 160 = .ok (.if_icmp .ge 5, 3) := by decide +kernel
theorem dX1_valueOf_163 : decode cX1_valueOf 163 = .ok (.iconst 0, 1) := by decide +kernel
theorem dX1_valueOf_164 : decode cX1_valueOf 164 = .ok (.ireturn, 1) := by decide +kernel
theorem dX1_valueOf_165 : decode cX1_valueOf 165 = .ok (.iinc 4 (-2), 3) := by decide +kernel
theorem dX1_valueOf_168 : decode cX1_valueOf 168 = .ok (.aload_n 0, 1) := by decide +kernel
theorem dX1_valueOf_169 : decode cX1_valueOf 169 = .ok (.getfield 21, 3) := by decide +kernel
theorem dX1_valueOf_172 : decode cX1_valueOf 172 = .ok (.iload 4, 2) := by decide +kernel
theorem dX1_valueOf_174 : decode cX1_valueOf 174 = .ok (.iaload, 1) := by decide +kernel
theorem dX1_valueOf_175 : decode cX1_valueOf 175 = .ok (.istore 8, 2) := by decide +kernel
theorem dX1_valueOf_177 : decode cX1_valueOf 177 = .ok (.aload_n 0, 1) := by decide +kernel
theorem dX1_valueOf_178 : decode cX1_valueOf 178 = .ok (.getfield 21, 3) := by decide +kernel
theorem dX1_valueOf_181 : decode cX1_valueOf 181 = .ok (.iload 4, 2) := by decide +kernel
theorem dX1_valueOf_183 : decode cX1_valueOf 183 = .ok (.iconst 1, 1) := by decide +kernel
theorem dX1_valueOf_184 : decode cX1_valueOf 184 = .ok (.iadd, 1) := by decide +kernel
theorem dX1_valueOf_185 : decode cX1_valueOf 185 = .ok (.iaload, 1) := by decide +kernel
theorem dX1_valueOf_186 : decode cX1_valueOf 186 = .ok (.istore 9, 2) := by decide +kernel
theorem dX1_valueOf_188 : decode cX1_valueOf 188 = .ok (.iload 7, 2) := by decide +kernel
theorem dX1_valueOf_190 : decode cX1_valueOf 190 = .ok (.bipush 14, 2) := by decide +kernel
theorem dX1_valueOf_192 : decode cX1_valueOf 192 = .ok (.if_icmp .ne 34, 3) := by decide +kernel
theorem dX1_valueOf_195 : decode cX1_valueOf 195 = .ok (.iload 8, 2) := by decide +kernel
theorem dX1_valueOf_197 : decode cX1_valueOf 197 = .ok (.iload 9, 2) := by decide +kernel
theorem dX1_valueOf_199 : decode cX1_valueOf 199 = .ok (.if_icmp .ge 8, 3) := by decide +kernel
theorem dX1_valueOf_202 : decode cX1_valueOf 202 = .ok (.iload 6, 2) := by decide +kernel
theorem dX1_valueOf_204 : decode cX1_valueOf 204 = .ok (.goto 17, 3) := by decide +kernel
theorem dX1_valueOf_207 : decode cX1_valueOf 207 = .ok (.iload 6, 2) := by decide +kernel
theorem dX1_valueOf_209 : decode cX1_valueOf 209 = .ok (.aload_n 0, 1) := by decide +kernel
theorem dX1_valueOf_210 : decode cX1_valueOf 210 = .ok (.getfield 15, 3) := by decide +kernel
theorem dX1_valueOf_213 : decode cX1_valueOf 213 = .ok (.iload 6, 2) := by decide +kernel
theorem dX1_valueOf_215 : decode cX1_valueOf 215 = .ok (.iaload, 1) := by decide +kernel
theorem dX1_valueOf_216 : decode cX1_valueOf 216 = .ok (.iconst 1, 1) := by decide +kernel
theorem dX1_valueOf_217 : decode cX1_valueOf 217 = .ok (.isub, 1) := by decide +kernel
theorem dX1_valueOf_218 : decode cX1_valueOf 218 = .ok (.invokestatic 54, 3) := by decide +kernel
theorem dX1_valueOf_221 : decode cX1_valueOf 221 = .ok (.istore 6, 2) := by decide +kernel
theorem dX1_valueOf_223 : decode cX1_valueOf 223 = .ok (.goto 36, 3) := by decide +kernel
theorem dX1_valueOf_226 : decode cX1_valueOf 226 = .ok (.iload 7, 2) := by decide +kernel
theorem dX1_valueOf_228 : decode cX1_valueOf 228 = .ok (.bipush 13, 2) := by decide +kernel
theorem dX1_valueOf_230 : decode cX1_valueOf 230 = .ok (.if_icmp .ne 10, 3) := by decide +kernel
theorem dX1_valueOf_233 : decode cX1_valueOf 233 = .ok (.iload 9, 2) := by decide +kernel
theorem dX1_valueOf_235 : decode cX1_valueOf 235 = .ok (.ifCond .ne 5, 3) := by decide +kernel
theorem dX1_valueOf_238 : decode cX1_valueOf 238 = .ok (.iconst 0, 1) := by decide +kernel
theorem dX1_valueOf_239 : decode cX1_valueOf 239 = .ok (.ireturn, 1) := by decide +kernel
theorem dX1_valueOf_240 : decode cX1_valueOf 240 = .ok (.aload_n 0, 1) := by decide +kernel
theorem dX1_valueOf_241 : decode cX1_valueOf 241 = .ok (.getfield 21, 3) := by decide +kernel
theorem dX1_valueOf_244 : decode cX1_valueOf 244 = .ok (.iload 4, 2) := by decide +kernel
theorem dX1_valueOf_246 : decode cX1_valueOf 246 = .ok (.iload 7, 2) := by decide +kernel
theorem dX1_valueOf_248 : decode cX1_valueOf 248 = .ok (.iload 8, 2) := by decide +kernel
theorem dX1_valueOf_250 : decode cX1_valueOf 250 = .ok (.iload 9, 2) := by decide +kernel
theorem dX1_valueOf_252 : decode cX1_valueOf 252 = .ok (.invokestatic 59, 3) := by decide +kernel
theorem dX1_valueOf_255 : decode cX1_valueOf 255 = .ok (.iastore, 1) := by decide +kernel
theorem dX1_valueOf_256 : decode cX1_valueOf 256 = .ok (.iinc 4 1, 3) := by decide +kernel
theorem dX1_valueOf_259 : decode cX1_valueOf 259 = .ok (.iinc 6 1, 3) := by decide +kernel
theorem dX1_valueOf_262 : decode cX1_valueOf 262 = .ok (.goto (-231), 3) := by decide +kernel
theorem dX1_valueOf_265 : decode cX1_valueOf 265 = .ok (.iconst 0, 1) := by decide +kernel
theorem dX1_valueOf_266 : decode cX1_valueOf 266 = .ok (.ireturn, 1) := by decide +kernel
theorem dX3_warms_0 : decode cX3_warms 0 = .ok (.iconst 0, 1) := by decide +kernel
theorem dX3_warms_1 : decode cX3_warms 1 = .ok (.bipush 99, 2) := by decide +kernel
theorem dX3_warms_3 : decode cX3_warms 3 = .ok (.aload_n 0, 1) := by decide +kernel
theorem dX3_warms_4 : decode cX3_warms 4 = .ok (.getfield 18, 3) := by decide +kernel
theorem dX3_warms_7 : decode cX3_warms 7 = .ok (.iconst 1, 1) := by decide +kernel
theorem dX3_warms_8 : decode cX3_warms 8 = .ok (.aload_n 1, 1) := by decide +kernel
theorem dX3_warms_9 : decode cX3_warms 9 = .ok (.iload_n 2, 1) := by decide +kernel
theorem dX3_warms_10 : decode cX3_warms 10 = .ok (.invokevirtual 84, 3) := by decide +kernel
theorem dX3_warms_13 : decode cX3_warms 13 = .ok (.invokestatic 88, 3) := by decide +kernel
theorem dX3_warms_16 : decode cX3_warms 16 = .ok (.invokestatic 91, 3) := by decide +kernel
theorem dX3_warms_19 : decode cX3_warms 19 = .ok (.ireturn, 1) := by decide +kernel
theorem dX7_set_0 : decode cX7_set 0 = .ok (.iload_n 1, 1) := by decide +kernel
theorem dX7_set_1 : decode cX7_set 1 = .ok (.bipush 7, 2) := by decide +kernel
theorem dX7_set_3 : decode cX7_set 3 = .ok (.imul, 1) := by decide +kernel
theorem dX7_set_4 : decode cX7_set 4 = .ok (.iload_n 2, 1) := by decide +kernel
theorem dX7_set_5 : decode cX7_set 5 = .ok (.iadd, 1) := by decide +kernel
theorem dX7_set_6 : decode cX7_set 6 = .ok (.istore 4, 2) := by decide +kernel
theorem dX7_set_8 : decode cX7_set 8 = .ok (.iload 4, 2) := by decide +kernel
theorem dX7_set_10 : decode cX7_set 10 = .ok (.ifCond .lt 21, 3) := by decide +kernel
theorem dX7_set_13 : decode cX7_set 13 = .ok (.iload 4, 2) := by decide +kernel
theorem dX7_set_15 : decode cX7_set 15 = .ok (.aload_n 0, 1) := by decide +kernel
theorem dX7_set_16 : decode cX7_set 16 = .ok (.getfield 11, 3) := by decide +kernel
theorem dX7_set_19 : decode cX7_set 19 = .ok (.arraylength, 1) := by decide +kernel
theorem dX7_set_20 : decode cX7_set 20 = .ok (.if_icmp .ge 11, 3) := by decide +kernel
theorem dX7_set_23 : decode cX7_set 23 = .ok (.aload_n 0, 1) := by decide +kernel
theorem dX7_set_24 : decode cX7_set 24 = .ok (.getfield 11, 3) := by decide +kernel
theorem dX7_set_27 : decode cX7_set 27 = .ok (.iload 4, 2) := by decide +kernel
theorem dX7_set_29 : decode cX7_set 29 = .ok (.iload_n 3, 1) := by decide +kernel
theorem dX7_set_30 : decode cX7_set 30 = .ok (.iastore, 1) := by decide +kernel
theorem dX7_set_31 : decode cX7_set 31 = .ok (.return_, 1) := by decide +kernel
section WK0
variable {p : Program} {l : Launch} {e : Env} {s : State} {m : MethodId} {args : Array Value} {below : List Frame} {meth : Method} {c : Code} {ω : WW}

set_option maxHeartbeats 4000000 in
set_option maxRecDepth 100000 in
theorem wJ6_bitCount_0f7a4_e (C : Cx ω p s m args c cJ6_bitCount_0f7a4 1 RJ6) (hr : meth.sig.returnType = some .int) (hk : meth.locks = false) {rr : Int32} {μ : Mem} {x0 : Int32} {H : Heap} {locs : List Loc} {ls : Array Slot} (hH : Hd ω μ H) (hS : FS ω s H locs) (hl : lv_has ls 1 [(0, .int x0)]) (h : fJ6_bitCount_0f7a4 x0 = some rr) : W p l e (rmd 1) s m args below meth c H locs 0 0 (MQ below (QR ω (some (.int rr)) μ) args s 0 0 (wA ω)) (F0 m 0 ls []) := by
  have hx := C.1
  have hb := C.2.1
  unfold fJ6_bitCount_0f7a4 at h
  refine lv_iload_n hx hb dJ6_bitCount_0f7a4_0 rfl (lv_at hl 0 rfl) ?_
  refine lv_iload_n hx hb dJ6_bitCount_0f7a4_1 rfl (lv_at hl 0 rfl) ?_
  refine lv_iconst (v := 1) hx hb dJ6_bitCount_0f7a4_2 (by decide) ?_
  refine lv_iushr (v := ushr x0 1) hx hb dJ6_bitCount_0f7a4_3 rfl ?_
  refine lv_ldcw (v := 1431655765) hx hb C.2.2.2.1 (C.2.2.2.2.1 _ (tg wd_1142 rfl)) dJ6_bitCount_0f7a4_4 ?_
  refine lv_iand hx hb dJ6_bitCount_0f7a4_7 ?_
  refine lv_isub hx hb dJ6_bitCount_0f7a4_8 ?_
  obtain ⟨y1, e2, h⟩ := bd_e h
  refine h_topi e2 ?_
  refine lv_istore_n (lv' := [(0, .int y1)]) hx hb dJ6_bitCount_0f7a4_9 rfl hl (by decide) rfl (fun ls hl => ?_)
  refine lv_iload_n hx hb dJ6_bitCount_0f7a4_10 rfl (lv_at hl 0 rfl) ?_
  refine lv_ldcw (v := 858993459) hx hb C.2.2.2.1 (C.2.2.2.2.1 _ (tg wd_1143 rfl)) dJ6_bitCount_0f7a4_11 ?_
  refine lv_iand hx hb dJ6_bitCount_0f7a4_14 ?_
  refine lv_iload_n hx hb dJ6_bitCount_0f7a4_15 rfl (lv_at hl 0 rfl) ?_
  refine lv_iconst (v := 2) hx hb dJ6_bitCount_0f7a4_16 (by decide) ?_
  refine lv_iushr (v := ushr y1 2) hx hb dJ6_bitCount_0f7a4_17 rfl ?_
  refine lv_ldcw (v := 858993459) hx hb C.2.2.2.1 (C.2.2.2.2.1 _ (tg wd_1143 rfl)) dJ6_bitCount_0f7a4_18 ?_
  refine lv_iand hx hb dJ6_bitCount_0f7a4_21 ?_
  refine lv_iadd hx hb dJ6_bitCount_0f7a4_22 ?_
  obtain ⟨y3, e4, h⟩ := bd_e h
  refine h_topi e4 ?_
  refine lv_istore_n (lv' := [(0, .int y3)]) hx hb dJ6_bitCount_0f7a4_23 rfl hl (by decide) rfl (fun ls hl => ?_)
  refine lv_iload_n hx hb dJ6_bitCount_0f7a4_24 rfl (lv_at hl 0 rfl) ?_
  refine lv_iload_n hx hb dJ6_bitCount_0f7a4_25 rfl (lv_at hl 0 rfl) ?_
  refine lv_iconst (v := 4) hx hb dJ6_bitCount_0f7a4_26 (by decide) ?_
  refine lv_iushr (v := ushr y3 4) hx hb dJ6_bitCount_0f7a4_27 rfl ?_
  refine lv_iadd hx hb dJ6_bitCount_0f7a4_28 ?_
  refine lv_ldcw (v := 252645135) hx hb C.2.2.2.1 (C.2.2.2.2.1 _ (tg wd_1144 rfl)) dJ6_bitCount_0f7a4_29 ?_
  refine lv_iand hx hb dJ6_bitCount_0f7a4_32 ?_
  obtain ⟨y5, e6, h⟩ := bd_e h
  refine h_topi e6 ?_
  refine lv_istore_n (lv' := [(0, .int y5)]) hx hb dJ6_bitCount_0f7a4_33 rfl hl (by decide) rfl (fun ls hl => ?_)
  refine lv_iload_n hx hb dJ6_bitCount_0f7a4_34 rfl (lv_at hl 0 rfl) ?_
  refine lv_iload_n hx hb dJ6_bitCount_0f7a4_35 rfl (lv_at hl 0 rfl) ?_
  refine lv_bipush (v := 8) hx hb dJ6_bitCount_0f7a4_36 (by decide) ?_
  refine lv_iushr (v := ushr y5 8) hx hb dJ6_bitCount_0f7a4_38 rfl ?_
  refine lv_iadd hx hb dJ6_bitCount_0f7a4_39 ?_
  obtain ⟨y7, e8, h⟩ := bd_e h
  refine h_topi e8 ?_
  refine lv_istore_n (lv' := [(0, .int y7)]) hx hb dJ6_bitCount_0f7a4_40 rfl hl (by decide) rfl (fun ls hl => ?_)
  refine lv_iload_n hx hb dJ6_bitCount_0f7a4_41 rfl (lv_at hl 0 rfl) ?_
  refine lv_iload_n hx hb dJ6_bitCount_0f7a4_42 rfl (lv_at hl 0 rfl) ?_
  refine lv_bipush (v := 16) hx hb dJ6_bitCount_0f7a4_43 (by decide) ?_
  refine lv_iushr (v := ushr y7 16) hx hb dJ6_bitCount_0f7a4_45 rfl ?_
  refine lv_iadd hx hb dJ6_bitCount_0f7a4_46 ?_
  obtain ⟨y9, e10, h⟩ := bd_e h
  refine h_topi e10 ?_
  refine lv_istore_n (lv' := [(0, .int y9)]) hx hb dJ6_bitCount_0f7a4_47 rfl hl (by decide) rfl (fun ls hl => ?_)
  refine lv_iload_n hx hb dJ6_bitCount_0f7a4_48 rfl (lv_at hl 0 rfl) ?_
  refine lv_bipush (v := 63) hx hb dJ6_bitCount_0f7a4_49 (by decide) ?_
  refine lv_iand hx hb dJ6_bitCount_0f7a4_51 ?_
  exact h_iret C hr hk hH hS rfl (by cases h; rfl) dJ6_bitCount_0f7a4_52
theorem c_J6_bitCount_0f7a4 {l : Launch} {ω : WW} {x0 : Int32} {μ : Mem} {rr : Int32} (h : fJ6_bitCount_0f7a4 x0 = some rr) : Con l yJ6_bitCount_0f7a4 cJ6_bitCount_0f7a4 1 (some .int) 1 ω [.int x0] μ (some (.int rr)) μ :=
  con_of (by decide) (Nat.le_of_ble_eq_true rfl) (fun p e s m args below meth c ls C hr hk hl hH hS => wJ6_bitCount_0f7a4_e C hr hk hH hS (lv_sub hl [0] rfl) h)
set_option maxHeartbeats 4000000 in
set_option maxRecDepth 100000 in
theorem wX0_clearAll_s7 (hW : FWC ω) (C : Cx ω p s m args c cX0_clearAll 2 RX0) (hr : meth.sig.returnType = none) (hk : meth.locks = false) {μo : Mem} {x1 : Int32} {rec : Int32 → Mem → Option Mem} (hrec : ∀ (z1 : Int32) (ν : Mem) (H : Heap) (locs : List Loc) (ls : Array Slot), Hd ω ν H → FS ω s H locs → lv_has ls 2 [(0, .ref (wB ω + 30)), (1, .int z1)] → rec z1 ν = some μo → W p l e (rmd 1) s m args below meth c H locs 0 0 (MQ below (QR ω none μo) args s 0 0 (wA ω)) (F0 m 7 ls [])) {μ : Mem} {H : Heap} {locs : List Loc} {ls : Array Slot} (hH : Hd ω μ H) (hS : FS ω s H locs) (hl : lv_has ls 2 [(0, .ref (wB ω + 30)), (1, .int x1)]) (h : fX0_clearAll_s7 rec x1 μ = some μo) : W p l e (rmd 1) s m args below meth c H locs 0 0 (MQ below (QR ω none μo) args s 0 0 (wA ω)) (F0 m 7 ls []) := by
  have hx := C.1
  have hb := C.2.1
  unfold fX0_clearAll_s7 at h
  refine lv_iload_n hx hb dX0_clearAll_7 rfl (lv_at hl 1 rfl) ?_
  refine lv_iconst (v := 3) hx hb dX0_clearAll_8 (by decide) ?_
  refine lv_icmp_ge (tgt := 25) hx hb dX0_clearAll_9 (by decide) (fun hc => ?_) (fun hc => ?_)
  · have h := ite_t hc h
    exact h_vret C hr hk hH hS (by cases h; rfl) dX0_clearAll_25
  · have h := ite_f hc h
    refine lv_aload_n hx hb dX0_clearAll_12 rfl (lv_at hl 0 rfl) ?_
    refine g_359 (i := 119) C hH (jC_30 hW) rfl dX0_clearAll_13 ?_
    refine lv_iload_n hx hb dX0_clearAll_16 rfl (lv_at hl 1 rfl) ?_
    refine lv_iconst (v := 0) hx hb dX0_clearAll_17 (by decide) ?_
    obtain ⟨b3, h⟩ := gd_e h
    obtain ⟨μ4, e5, h⟩ := bd_e h
    refine h_zast (y := 0) C hH hS (jC_119 hW).1 (jC_119 hW).2.1 b3 rfl dX0_clearAll_18 (fun H locs hH hS => ?_)
    have hH := Hd.to e5 hH
    refine lv_iinc (v := x1 + 1) (lv' := [(1, .int (x1 + 1)), (0, .ref (wB ω + 30))]) hx hb dX0_clearAll_19 hl (k := 1) rfl rfl (by decide) rfl (fun ls hl => ?_)
    refine lv_goto (tgt := 7) hx hb dX0_clearAll_22 (by decide) ?_
    exact hrec _ _ H locs ls hH hS (lv_sub hl [1, 0] rfl) h
theorem wX0_clearAll_l7 (hW : FWC ω) (C : Cx ω p s m args c cX0_clearAll 2 RX0) (hr : meth.sig.returnType = none) (hk : meth.locks = false) {μo : Mem} : ∀ (n : Nat) (x1 : Int32) (μ : Mem) (H : Heap) (locs : List Loc) (ls : Array Slot), Hd ω μ H → FS ω s H locs → lv_has ls 2 [(0, .ref (wB ω + 30)), (1, .int x1)] → fX0_clearAll_l7 n x1 μ = some μo → W p l e (rmd 1) s m args below meth c H locs 0 0 (MQ below (QR ω none μo) args s 0 0 (wA ω)) (F0 m 7 ls []) := by
  intro n
  induction n with
  | zero => intro x1 μ H locs ls hH hS hl h; cases h
  | succ n ih => intro x1 μ H locs ls hH hS hl h; exact wX0_clearAll_s7 hW C hr hk ih hH hS hl h
set_option maxHeartbeats 4000000 in
set_option maxRecDepth 100000 in
theorem wX0_clearAll_e (hW : FWC ω) (C : Cx ω p s m args c cX0_clearAll 2 RX0) (hr : meth.sig.returnType = none) (hk : meth.locks = false) {μo : Mem} {μ : Mem} {H : Heap} {locs : List Loc} {ls : Array Slot} (hH : Hd ω μ H) (hS : FS ω s H locs) (hl : lv_has ls 2 [(0, .ref (wB ω + 30))]) (h : fX0_clearAll μ = some μo) : W p l e (rmd 1) s m args below meth c H locs 0 0 (MQ below (QR ω none μo) args s 0 0 (wA ω)) (F0 m 0 ls []) := by
  have hx := C.1
  have hb := C.2.1
  unfold fX0_clearAll at h
  refine lv_aload_n hx hb dX0_clearAll_0 rfl (lv_at hl 0 rfl) ?_
  refine lv_iconst (v := 0) hx hb dX0_clearAll_1 (by decide) ?_
  obtain ⟨μ1, e2, h⟩ := bd_e h
  refine p_361 C hH hS (jC_30 hW) dX0_clearAll_2 (fun H locs hH hS => ?_)
  have hH := Hd.to e2 hH
  refine lv_iconst (v := 0) hx hb dX0_clearAll_5 (by decide) ?_
  refine lv_istore_n (lv' := [(1, .int 0), (0, .ref (wB ω + 30))]) hx hb dX0_clearAll_6 rfl hl (by decide) rfl (fun ls hl => ?_)
  exact wX0_clearAll_l7 hW C hr hk FU _ _ H locs ls hH hS (lv_sub hl [1, 0] rfl) h
theorem c_X0_clearAll {l : Launch} {ω : WW} (hW : FWC ω) {μ : Mem} {μo : Mem} (h : fX0_clearAll μ = some μo) : Con l yX0_clearAll cX0_clearAll 2 none 1 ω [.ref (wB ω + 30)] μ none μo :=
  con_of (by decide) (Nat.le_of_ble_eq_true rfl) (fun p e s m args below meth c ls C hr hk hl hH hS => wX0_clearAll_e hW C hr hk hH hS (lv_sub hl [0] rfl) h)
set_option maxHeartbeats 4000000 in
set_option maxRecDepth 100000 in
theorem wX7_copyFrom_e {q : Nat} {q1 : Nat} (hq : IsS ω q) (hq1 : IsS ω q1) (C : Cx ω p s m args c cX7_copyFrom 2 RX7) (hr : meth.sig.returnType = none) (hk : meth.locks = false) {μo : Mem} {μ : Mem} {H : Heap} {locs : List Loc} {ls : Array Slot} (hH : Hd ω μ H) (hS : FS ω s H locs) (hl : lv_has ls 2 [(0, .ref (wB ω + q)), (1, .ref (wB ω + q1))]) (h : fX7_copyFrom q q1 μ = some μo) : W p l e (rmd 2) s m args below meth c H locs 0 0 (MQ below (QR ω none μo) args s 0 0 (wA ω)) (F0 m 0 ls []) := by
  have hx := C.1
  have hb := C.2.1
  unfold fX7_copyFrom at h
  refine lv_aload_n hx hb dX7_copyFrom_0 rfl (lv_at hl 1 rfl) ?_
  refine g_322 (i := q1 + 1) C hH hq1.1 rfl dX7_copyFrom_1 ?_
  refine lv_iconst (v := 0) hx hb dX7_copyFrom_4 (by decide) ?_
  refine lv_aload_n hx hb dX7_copyFrom_5 rfl (lv_at hl 0 rfl) ?_
  refine g_322 (i := q + 1) C hH hq.1 rfl dX7_copyFrom_6 ?_
  refine lv_iconst (v := 0) hx hb dX7_copyFrom_9 (by decide) ?_
  refine lv_aload_n hx hb dX7_copyFrom_10 rfl (lv_at hl 0 rfl) ?_
  refine g_322 (i := q + 1) C hH hq.1 rfl dX7_copyFrom_11 ?_
  refine h_alen (v := 42) C hH hq.2.1 hq.2.2.1 (by decide) (by decide) (by decide) dX7_copyFrom_14 ?_
  obtain ⟨b1, h⟩ := gd_e h
  obtain ⟨μ2, e3, h⟩ := bd_e h
  refine h_copyi (rest := []) C hl.1 hH hS hq1.2.1 hq1.2.2.1 hq.2.1 hq.2.2.1 wd_831 (cpo_e b1) (Nat.le_of_ble_eq_true rfl) (Nat.le_of_ble_eq_true rfl) dX7_copyFrom_15 (fun H locs hH hS => ?_)
  have hH := Hd.to e3 hH
  refine lv_aload_n hx hb dX7_copyFrom_18 rfl (lv_at hl 0 rfl) ?_
  refine lv_aload_n hx hb dX7_copyFrom_19 rfl (lv_at hl 1 rfl) ?_
  refine g_323 C hH hq1.1 dX7_copyFrom_20 ?_
  obtain ⟨μ4, e5, h⟩ := bd_e h
  refine p_323 C hH hS hq.1 dX7_copyFrom_23 (fun H locs hH hS => ?_)
  have hH := Hd.to e5 hH
  refine lv_aload_n hx hb dX7_copyFrom_26 rfl (lv_at hl 0 rfl) ?_
  refine lv_aload_n hx hb dX7_copyFrom_27 rfl (lv_at hl 1 rfl) ?_
  refine g_329 C hH hq1.1 dX7_copyFrom_28 ?_
  obtain ⟨μ6, e7, h⟩ := bd_e h
  refine p_329 C hH hS hq.1 dX7_copyFrom_31 (fun H locs hH hS => ?_)
  have hH := Hd.to e7 hH
  refine lv_aload_n hx hb dX7_copyFrom_34 rfl (lv_at hl 0 rfl) ?_
  refine lv_aload_n hx hb dX7_copyFrom_35 rfl (lv_at hl 1 rfl) ?_
  refine g_331 C hH hq1.1 dX7_copyFrom_36 ?_
  obtain ⟨μ8, e9, h⟩ := bd_e h
  refine p_331 C hH hS hq.1 dX7_copyFrom_39 (fun H locs hH hS => ?_)
  have hH := Hd.to e9 hH
  refine lv_aload_n hx hb dX7_copyFrom_42 rfl (lv_at hl 0 rfl) ?_
  refine lv_aload_n hx hb dX7_copyFrom_43 rfl (lv_at hl 1 rfl) ?_
  refine g_334 C hH hq1.1 dX7_copyFrom_44 ?_
  obtain ⟨μ10, e11, h⟩ := bd_e h
  refine p_334 C hH hS hq.1 dX7_copyFrom_47 (fun H locs hH hS => ?_)
  have hH := Hd.to e11 hH
  exact h_vret C hr hk hH hS (by cases h; rfl) dX7_copyFrom_50
theorem c_X7_copyFrom {l : Launch} {ω : WW} {q : Nat} {q1 : Nat} (hq : IsS ω q) (hq1 : IsS ω q1) {μ : Mem} {μo : Mem} (h : fX7_copyFrom q q1 μ = some μo) : Con l yX7_copyFrom cX7_copyFrom 2 none 2 ω [.ref (wB ω + q), .ref (wB ω + q1)] μ none μo :=
  con_of (by decide) (Nat.le_of_ble_eq_true rfl) (fun p e s m args below meth c ls C hr hk hl hH hS => wX7_copyFrom_e hq hq1 C hr hk hH hS (lv_sub hl [0, 1] rfl) h)
set_option maxHeartbeats 4000000 in
set_option maxRecDepth 100000 in
theorem wX0_fetch_e {q2 : Nat} (hW : FWC ω) (hq2 : IsS ω q2) (C : Cx ω p s m args c cX0_fetch 3 RX0) (hr : meth.sig.returnType = some .boolean) (hk : meth.locks = false) {rr : Int32} {μo : Mem} {x1 : Int32} {μ : Mem} {H : Heap} {locs : List Loc} {ls : Array Slot} (hH : Hd ω μ H) (hS : FS ω s H locs) (hl : lv_has ls 3 [(0, .ref (wB ω + 30)), (1, .int x1), (2, .ref (wB ω + q2))]) (h : fX0_fetch x1 q2 μ = some (rr, μo)) : W p l e (rmd 3) s m args below meth c H locs 0 0 (MQ below (QR ω (some (.int rr)) μo) args s 0 0 (wA ω)) (F0 m 0 ls []) := by
  have hx := C.1
  have hb := C.2.1
  unfold fX0_fetch at h
  refine lv_iload_n hx hb dX0_fetch_0 rfl (lv_at hl 1 rfl) ?_
  refine lv_if_lt (tgt := 18) hx hb dX0_fetch_1 (by decide) (fun hc => ?_) (fun hc => ?_)
  · have h := ite_t hc h
    refine lv_iconst (v := 0) hx hb dX0_fetch_18 (by decide) ?_
    exact h_zret (y := 0) C hr hk hH hS rfl (by cases h; rfl) dX0_fetch_19
  · have h := ite_f hc h
    refine lv_iload_n hx hb dX0_fetch_4 rfl (lv_at hl 1 rfl) ?_
    refine lv_iconst (v := 3) hx hb dX0_fetch_5 (by decide) ?_
    refine lv_icmp_ge (tgt := 18) hx hb dX0_fetch_6 (by decide) (fun hc => ?_) (fun hc => ?_)
    · have h := ite_t hc h
      refine lv_iconst (v := 0) hx hb dX0_fetch_18 (by decide) ?_
      exact h_zret (y := 0) C hr hk hH hS rfl (by cases h; rfl) dX0_fetch_19
    · have h := ite_f hc h
      refine lv_aload_n hx hb dX0_fetch_9 rfl (lv_at hl 0 rfl) ?_
      refine g_359 (i := 119) C hH (jC_30 hW) rfl dX0_fetch_10 ?_
      refine lv_iload_n hx hb dX0_fetch_13 rfl (lv_at hl 1 rfl) ?_
      obtain ⟨b1, h⟩ := gd_e h
      refine h_zald C hH (jC_119 hW).1 (jC_119 hW).2.1 b1 dX0_fetch_14 ?_
      refine lv_if_ne (tgt := 20) hx hb dX0_fetch_15 (by decide) (fun hc => ?_) (fun hc => ?_)
      · have h := ite_f hc h
        refine lv_aload_n hx hb dX0_fetch_20 rfl (lv_at hl 2 rfl) ?_
        refine lv_aload_n hx hb dX0_fetch_21 rfl (lv_at hl 0 rfl) ?_
        refine g_358 (i := 112) C hH (jC_30 hW) rfl dX0_fetch_22 ?_
        refine lv_iload_n hx hb dX0_fetch_25 rfl (lv_at hl 1 rfl) ?_
        obtain ⟨b2, h⟩ := gd_e h
        refine h_aald4 C hH (jC_112 hW).1 (jC_112 hW).2.1 (jC_112 hW).2.2 b2 dX0_fetch_26 ?_
        obtain ⟨μ4, e3, h⟩ := b1_e h
        refine cVv (as := [.ref (wB ω + (112 + 1 + 2 * x1.toNatClampNeg))]) (rest := []) (c_X7_copyFrom hq2 (pC_112 hW (ix_lt b2)) e3) C hl.1 hH hS rfl hq2.1 rfl wd_829 wd_828 mw_X7_copyFrom wd_827 rfl (rm_ok (by decide) (by decide)) (Nat.le_of_ble_eq_true rfl) ⟨Nat.zero_le _, Nat.zero_le _⟩ (by decide) dX0_fetch_27 (fun H locs hH hS => ?_)
        refine lv_aload_n hx hb dX0_fetch_30 rfl (lv_at hl 0 rfl) ?_
        refine lv_iconst (v := 0) hx hb dX0_fetch_31 (by decide) ?_
        obtain ⟨μ5, e6, h⟩ := bd_e h
        refine p_361 C hH hS (jC_30 hW) dX0_fetch_32 (fun H locs hH hS => ?_)
        have hH := Hd.to e6 hH
        refine lv_iconst (v := 1) hx hb dX0_fetch_35 (by decide) ?_
        exact h_zret (y := 1) C hr hk hH hS rfl (by cases h; rfl) dX0_fetch_36
      · have h := ite_t hc h
        refine lv_iconst (v := 0) hx hb dX0_fetch_18 (by decide) ?_
        exact h_zret (y := 0) C hr hk hH hS rfl (by cases h; rfl) dX0_fetch_19
theorem c_X0_fetch {l : Launch} {ω : WW} {x1 : Int32} {q2 : Nat} (hW : FWC ω) (hq2 : IsS ω q2) {μ : Mem} {rr : Int32} {μo : Mem} (h : fX0_fetch x1 q2 μ = some (rr, μo)) : Con l yX0_fetch cX0_fetch 3 (some .boolean) 3 ω [.ref (wB ω + 30), .int x1, .ref (wB ω + q2)] μ (some (.int rr)) μo :=
  con_of (by decide) (Nat.le_of_ble_eq_true rfl) (fun p e s m args below meth c ls C hr hk hl hH hS => wX0_fetch_e hW hq2 C hr hk hH hS (lv_sub hl [0, 1, 2] rfl) h)
set_option maxHeartbeats 4000000 in
set_option maxRecDepth 100000 in
theorem wX0_heldSlots_s4 (hW : FWC ω) (C : Cx ω p s m args c cX0_heldSlots 3 RX0) (hr : meth.sig.returnType = some .int) (hk : meth.locks = false) {rr : Int32} {μ : Mem} {x1 : Int32} {x2 : Int32} {rec : Int32 → Int32 → Option Int32} (hrec : ∀ (z1 : Int32) (z2 : Int32) (H : Heap) (locs : List Loc) (ls : Array Slot), Hd ω μ H → FS ω s H locs → lv_has ls 3 [(0, .ref (wB ω + 30)), (1, .int z1), (2, .int z2)] → rec z1 z2 = some rr → W p l e (rmd 1) s m args below meth c H locs 0 0 (MQ below (QR ω (some (.int rr)) μ) args s 0 0 (wA ω)) (F0 m 4 ls [])) {H : Heap} {locs : List Loc} {ls : Array Slot} (hH : Hd ω μ H) (hS : FS ω s H locs) (hl : lv_has ls 3 [(0, .ref (wB ω + 30)), (1, .int x1), (2, .int x2)]) (h : fX0_heldSlots_s4 rec x1 x2 μ = some rr) : W p l e (rmd 1) s m args below meth c H locs 0 0 (MQ below (QR ω (some (.int rr)) μ) args s 0 0 (wA ω)) (F0 m 4 ls []) := by
  have hx := C.1
  have hb := C.2.1
  unfold fX0_heldSlots_s4 at h
  refine lv_iload_n hx hb dX0_heldSlots_4 rfl (lv_at hl 2 rfl) ?_
  refine lv_iconst (v := 3) hx hb dX0_heldSlots_5 (by decide) ?_
  refine lv_icmp_ge (tgt := 27) hx hb dX0_heldSlots_6 (by decide) (fun hc => ?_) (fun hc => ?_)
  · have h := ite_t hc h
    refine lv_iload_n hx hb dX0_heldSlots_27 rfl (lv_at hl 1 rfl) ?_
    exact h_iret C hr hk hH hS rfl (by cases h; rfl) dX0_heldSlots_28
  · have h := ite_f hc h
    refine lv_aload_n hx hb dX0_heldSlots_9 rfl (lv_at hl 0 rfl) ?_
    refine g_359 (i := 119) C hH (jC_30 hW) rfl dX0_heldSlots_10 ?_
    refine lv_iload_n hx hb dX0_heldSlots_13 rfl (lv_at hl 2 rfl) ?_
    obtain ⟨b1, h⟩ := gd_e h
    refine h_zald C hH (jC_119 hW).1 (jC_119 hW).2.1 b1 dX0_heldSlots_14 ?_
    refine lv_if_eq (tgt := 21) hx hb dX0_heldSlots_15 (by decide) (fun hc => ?_) (fun hc => ?_)
    · have h := ite_t hc h
      refine lv_iinc (v := x2 + 1) (lv' := [(2, .int (x2 + 1)), (0, .ref (wB ω + 30)), (1, .int x1)]) hx hb dX0_heldSlots_21 hl (k := 2) rfl rfl (by decide) rfl (fun ls hl => ?_)
      refine lv_goto (tgt := 4) hx hb dX0_heldSlots_24 (by decide) ?_
      exact hrec _ _ H locs ls hH hS (lv_sub hl [1, 2, 0] rfl) h
    · have h := ite_f hc h
      refine lv_iinc (v := x1 + 1) (lv' := [(1, .int (x1 + 1)), (0, .ref (wB ω + 30)), (2, .int x2)]) hx hb dX0_heldSlots_18 hl (k := 1) rfl rfl (by decide) rfl (fun ls hl => ?_)
      refine lv_iinc (v := x2 + 1) (lv' := [(2, .int (x2 + 1)), (1, .int (x1 + 1)), (0, .ref (wB ω + 30))]) hx hb dX0_heldSlots_21 hl (k := 2) rfl rfl (by decide) rfl (fun ls hl => ?_)
      refine lv_goto (tgt := 4) hx hb dX0_heldSlots_24 (by decide) ?_
      exact hrec _ _ H locs ls hH hS (lv_sub hl [2, 1, 0] rfl) h
theorem wX0_heldSlots_l4 (hW : FWC ω) (C : Cx ω p s m args c cX0_heldSlots 3 RX0) (hr : meth.sig.returnType = some .int) (hk : meth.locks = false) {rr : Int32} {μ : Mem} : ∀ (n : Nat) (x1 : Int32) (x2 : Int32) (H : Heap) (locs : List Loc) (ls : Array Slot), Hd ω μ H → FS ω s H locs → lv_has ls 3 [(0, .ref (wB ω + 30)), (1, .int x1), (2, .int x2)] → fX0_heldSlots_l4 μ n x1 x2 = some rr → W p l e (rmd 1) s m args below meth c H locs 0 0 (MQ below (QR ω (some (.int rr)) μ) args s 0 0 (wA ω)) (F0 m 4 ls []) := by
  intro n
  induction n with
  | zero => intro x1 x2 H locs ls hH hS hl h; cases h
  | succ n ih => intro x1 x2 H locs ls hH hS hl h; exact wX0_heldSlots_s4 hW C hr hk ih hH hS hl h
set_option maxHeartbeats 4000000 in
set_option maxRecDepth 100000 in
theorem wX0_heldSlots_e (hW : FWC ω) (C : Cx ω p s m args c cX0_heldSlots 3 RX0) (hr : meth.sig.returnType = some .int) (hk : meth.locks = false) {rr : Int32} {μ : Mem} {H : Heap} {locs : List Loc} {ls : Array Slot} (hH : Hd ω μ H) (hS : FS ω s H locs) (hl : lv_has ls 3 [(0, .ref (wB ω + 30))]) (h : fX0_heldSlots μ = some rr) : W p l e (rmd 1) s m args below meth c H locs 0 0 (MQ below (QR ω (some (.int rr)) μ) args s 0 0 (wA ω)) (F0 m 0 ls []) := by
  have hx := C.1
  have hb := C.2.1
  unfold fX0_heldSlots at h
  refine lv_iconst (v := 0) hx hb dX0_heldSlots_0 (by decide) ?_
  refine lv_istore_n (lv' := [(1, .int 0), (0, .ref (wB ω + 30))]) hx hb dX0_heldSlots_1 rfl hl (by decide) rfl (fun ls hl => ?_)
  refine lv_iconst (v := 0) hx hb dX0_heldSlots_2 (by decide) ?_
  refine lv_istore_n (lv' := [(2, .int 0), (1, .int 0), (0, .ref (wB ω + 30))]) hx hb dX0_heldSlots_3 rfl hl (by decide) rfl (fun ls hl => ?_)
  exact wX0_heldSlots_l4 hW C hr hk FU _ _ H locs ls hH hS (lv_sub hl [2, 1, 0] rfl) h
theorem c_X0_heldSlots {l : Launch} {ω : WW} (hW : FWC ω) {μ : Mem} {rr : Int32} (h : fX0_heldSlots μ = some rr) : Con l yX0_heldSlots cX0_heldSlots 3 (some .int) 1 ω [.ref (wB ω + 30)] μ (some (.int rr)) μ :=
  con_of (by decide) (Nat.le_of_ble_eq_true rfl) (fun p e s m args below meth c ls C hr hk hl hH hS => wX0_heldSlots_e hW C hr hk hH hS (lv_sub hl [0] rfl) h)
set_option maxHeartbeats 4000000 in
set_option maxRecDepth 100000 in
theorem wX0_keep_e {q2 : Nat} (hW : FWC ω) (hq2 : IsS ω q2) (C : Cx ω p s m args c cX0_keep 3 RX0) (hr : meth.sig.returnType = some .boolean) (hk : meth.locks = false) {rr : Int32} {μo : Mem} {x1 : Int32} {μ : Mem} {H : Heap} {locs : List Loc} {ls : Array Slot} (hH : Hd ω μ H) (hS : FS ω s H locs) (hl : lv_has ls 3 [(0, .ref (wB ω + 30)), (1, .int x1), (2, .ref (wB ω + q2))]) (h : fX0_keep x1 q2 μ = some (rr, μo)) : W p l e (rmd 3) s m args below meth c H locs 0 0 (MQ below (QR ω (some (.int rr)) μo) args s 0 0 (wA ω)) (F0 m 0 ls []) := by
  have hx := C.1
  have hb := C.2.1
  unfold fX0_keep at h
  refine lv_iload_n hx hb dX0_keep_0 rfl (lv_at hl 1 rfl) ?_
  refine lv_if_lt (tgt := 9) hx hb dX0_keep_1 (by decide) (fun hc => ?_) (fun hc => ?_)
  · have h := ite_t hc h
    refine lv_iconst (v := 0) hx hb dX0_keep_9 (by decide) ?_
    exact h_zret (y := 0) C hr hk hH hS rfl (by cases h; rfl) dX0_keep_10
  · have h := ite_f hc h
    refine lv_iload_n hx hb dX0_keep_4 rfl (lv_at hl 1 rfl) ?_
    refine lv_iconst (v := 3) hx hb dX0_keep_5 (by decide) ?_
    refine lv_icmp_lt (tgt := 11) hx hb dX0_keep_6 (by decide) (fun hc => ?_) (fun hc => ?_)
    · have h := ite_t hc h
      refine lv_aload_n hx hb dX0_keep_11 rfl (lv_at hl 0 rfl) ?_
      refine g_358 (i := 112) C hH (jC_30 hW) rfl dX0_keep_12 ?_
      refine lv_iload_n hx hb dX0_keep_15 rfl (lv_at hl 1 rfl) ?_
      obtain ⟨b1, h⟩ := gd_e h
      refine h_aald4 C hH (jC_112 hW).1 (jC_112 hW).2.1 (jC_112 hW).2.2 b1 dX0_keep_16 ?_
      refine lv_aload_n hx hb dX0_keep_17 rfl (lv_at hl 2 rfl) ?_
      obtain ⟨μ3, e2, h⟩ := b1_e h
      refine cVv (as := [.ref (wB ω + q2)]) (rest := []) (c_X7_copyFrom (pC_112 hW (ix_lt b1)) hq2 e2) C hl.1 hH hS rfl (pC_112 hW (ix_lt b1)).1 rfl wd_829 wd_828 mw_X7_copyFrom wd_827 rfl (rm_ok (by decide) (by decide)) (Nat.le_of_ble_eq_true rfl) ⟨Nat.zero_le _, Nat.zero_le _⟩ (by decide) dX0_keep_18 (fun H locs hH hS => ?_)
      refine lv_aload_n hx hb dX0_keep_21 rfl (lv_at hl 0 rfl) ?_
      refine g_359 (i := 119) C hH (jC_30 hW) rfl dX0_keep_22 ?_
      refine lv_iload_n hx hb dX0_keep_25 rfl (lv_at hl 1 rfl) ?_
      refine lv_iconst (v := 1) hx hb dX0_keep_26 (by decide) ?_
      obtain ⟨b4, h⟩ := gd_e h
      obtain ⟨μ5, e6, h⟩ := bd_e h
      refine h_zast (y := 1) C hH hS (jC_119 hW).1 (jC_119 hW).2.1 b4 rfl dX0_keep_27 (fun H locs hH hS => ?_)
      have hH := Hd.to e6 hH
      refine lv_iconst (v := 1) hx hb dX0_keep_28 (by decide) ?_
      exact h_zret (y := 1) C hr hk hH hS rfl (by cases h; rfl) dX0_keep_29
    · have h := ite_f hc h
      refine lv_iconst (v := 0) hx hb dX0_keep_9 (by decide) ?_
      exact h_zret (y := 0) C hr hk hH hS rfl (by cases h; rfl) dX0_keep_10
theorem c_X0_keep {l : Launch} {ω : WW} {x1 : Int32} {q2 : Nat} (hW : FWC ω) (hq2 : IsS ω q2) {μ : Mem} {rr : Int32} {μo : Mem} (h : fX0_keep x1 q2 μ = some (rr, μo)) : Con l yX0_keep cX0_keep 3 (some .boolean) 3 ω [.ref (wB ω + 30), .int x1, .ref (wB ω + q2)] μ (some (.int rr)) μo :=
  con_of (by decide) (Nat.le_of_ble_eq_true rfl) (fun p e s m args below meth c ls C hr hk hl hH hS => wX0_keep_e hW hq2 C hr hk hH hS (lv_sub hl [0, 1, 2] rfl) h)
set_option maxHeartbeats 4000000 in
set_option maxRecDepth 100000 in
theorem wX0_pop_b42 {q1 : Nat} (hW : FWC ω) (hq1 : IsS ω q1) (C : Cx ω p s m args c cX0_pop 2 RX0) (hr : meth.sig.returnType = some .boolean) (hk : meth.locks = false) {rr : Int32} {μo : Mem} {k1 : Int32} {μ : Mem} {H : Heap} {locs : List Loc} {ls : Array Slot} (hH : Hd ω μ H) (hS : FS ω s H locs) (hl : lv_has ls 2 [(0, .ref (wB ω + 30))]) (h : fX0_pop_b42 q1 k1 μ = some (rr, μo)) : W p l e (rmd 3) s m args below meth c H locs 0 0 (MQ below (QR ω (some (.int rr)) μo) args s 0 0 (wA ω)) (F0 m 42 ls [.int k1, .ref (wB ω + 30)]) := by
  have hx := C.1
  have hb := C.2.1
  unfold fX0_pop_b42 at h
  obtain ⟨μ4, e5, h⟩ := bd_e h
  refine p_360 C hH hS (jC_30 hW) dX0_pop_42 (fun H locs hH hS => ?_)
  have hH := Hd.to e5 hH
  refine lv_aload_n hx hb dX0_pop_45 rfl (lv_at hl 0 rfl) ?_
  refine lv_dup hx hb dX0_pop_46 rfl ?_
  refine g_361 C hH (jC_30 hW) dX0_pop_47 ?_
  refine lv_iconst (v := 1) hx hb dX0_pop_50 (by decide) ?_
  refine lv_isub hx hb dX0_pop_51 ?_
  obtain ⟨μ6, e7, h⟩ := bd_e h
  refine p_361 C hH hS (jC_30 hW) dX0_pop_52 (fun H locs hH hS => ?_)
  have hH := Hd.to e7 hH
  refine lv_iconst (v := 1) hx hb dX0_pop_55 (by decide) ?_
  exact h_zret (y := 1) C hr hk hH hS rfl (by cases h; rfl) dX0_pop_56
set_option maxHeartbeats 4000000 in
set_option maxRecDepth 100000 in
theorem wX0_pop_e {q1 : Nat} (hW : FWC ω) (hq1 : IsS ω q1) (C : Cx ω p s m args c cX0_pop 2 RX0) (hr : meth.sig.returnType = some .boolean) (hk : meth.locks = false) {rr : Int32} {μo : Mem} {μ : Mem} {H : Heap} {locs : List Loc} {ls : Array Slot} (hH : Hd ω μ H) (hS : FS ω s H locs) (hl : lv_has ls 2 [(0, .ref (wB ω + 30)), (1, .ref (wB ω + q1))]) (h : fX0_pop q1 μ = some (rr, μo)) : W p l e (rmd 3) s m args below meth c H locs 0 0 (MQ below (QR ω (some (.int rr)) μo) args s 0 0 (wA ω)) (F0 m 0 ls []) := by
  have hx := C.1
  have hb := C.2.1
  unfold fX0_pop at h
  refine lv_aload_n hx hb dX0_pop_0 rfl (lv_at hl 0 rfl) ?_
  refine g_361 C hH (jC_30 hW) dX0_pop_1 ?_
  refine lv_iconst (v := 1) hx hb dX0_pop_4 (by decide) ?_
  refine lv_icmp_ge (tgt := 10) hx hb dX0_pop_5 (by decide) (fun hc => ?_) (fun hc => ?_)
  · have h := ite_t hc h
    refine lv_aload_n hx hb dX0_pop_10 rfl (lv_at hl 1 rfl) ?_
    refine lv_aload_n hx hb dX0_pop_11 rfl (lv_at hl 0 rfl) ?_
    refine g_357 (i := 31) C hH (jC_30 hW) rfl dX0_pop_12 ?_
    refine lv_aload_n hx hb dX0_pop_15 rfl (lv_at hl 0 rfl) ?_
    refine g_360 C hH (jC_30 hW) dX0_pop_16 ?_
    obtain ⟨b1, h⟩ := gd_e h
    refine h_aald4 C hH (jC_31 hW).1 (jC_31 hW).2.1 (jC_31 hW).2.2 b1 dX0_pop_19 ?_
    obtain ⟨μ3, e2, h⟩ := b1_e h
    refine cVv (as := [.ref (wB ω + (31 + 1 + 2 * ((μ.1 30 3).toNatClampNeg)))]) (rest := []) (c_X7_copyFrom hq1 (pC_31 hW (ix_lt b1)) e2) C hl.1 hH hS rfl hq1.1 rfl wd_829 wd_828 mw_X7_copyFrom wd_827 rfl (rm_ok (by decide) (by decide)) (Nat.le_of_ble_eq_true rfl) ⟨Nat.zero_le _, Nat.zero_le _⟩ (by decide) dX0_pop_20 (fun H locs hH hS => ?_)
    refine lv_aload_n hx hb dX0_pop_23 rfl (lv_at hl 0 rfl) ?_
    refine lv_aload_n hx hb dX0_pop_24 rfl (lv_at hl 0 rfl) ?_
    refine g_360 C hH (jC_30 hW) dX0_pop_25 ?_
    refine lv_if_le (tgt := 40) hx hb dX0_pop_28 (by decide) (fun hc => ?_) (fun hc => ?_)
    · have h := ite_t hc h
      refine lv_bipush (v := 39) hx hb dX0_pop_40 (by decide) ?_
      exact wX0_pop_b42 hW hq1 C hr hk hH hS (lv_sub hl [0] rfl) h
    · have h := ite_f hc h
      refine lv_aload_n hx hb dX0_pop_31 rfl (lv_at hl 0 rfl) ?_
      refine g_360 C hH (jC_30 hW) dX0_pop_32 ?_
      refine lv_iconst (v := 1) hx hb dX0_pop_35 (by decide) ?_
      refine lv_isub hx hb dX0_pop_36 ?_
      refine lv_goto (tgt := 42) hx hb dX0_pop_37 (by decide) ?_
      exact wX0_pop_b42 hW hq1 C hr hk hH hS (lv_sub hl [0] rfl) h
  · have h := ite_f hc h
    refine lv_iconst (v := 0) hx hb dX0_pop_8 (by decide) ?_
    exact h_zret (y := 0) C hr hk hH hS rfl (by cases h; rfl) dX0_pop_9
theorem c_X0_pop {l : Launch} {ω : WW} {q1 : Nat} (hW : FWC ω) (hq1 : IsS ω q1) {μ : Mem} {rr : Int32} {μo : Mem} (h : fX0_pop q1 μ = some (rr, μo)) : Con l yX0_pop cX0_pop 2 (some .boolean) 3 ω [.ref (wB ω + 30), .ref (wB ω + q1)] μ (some (.int rr)) μo :=
  con_of (by decide) (Nat.le_of_ble_eq_true rfl) (fun p e s m args below meth c ls C hr hk hl hH hS => wX0_pop_e hW hq1 C hr hk hH hS (lv_sub hl [0, 1] rfl) h)
set_option maxHeartbeats 4000000 in
set_option maxRecDepth 100000 in
theorem wX0_push_b22 {q1 : Nat} (hW : FWC ω) (hq1 : IsS ω q1) (C : Cx ω p s m args c cX0_push 2 RX0) (hr : meth.sig.returnType = none) (hk : meth.locks = false) {μo : Mem} {k1 : Int32} {μ : Mem} {H : Heap} {locs : List Loc} {ls : Array Slot} (hH : Hd ω μ H) (hS : FS ω s H locs) (hl : lv_has ls 2 [(0, .ref (wB ω + 30)), (1, .ref (wB ω + q1))]) (h : fX0_push_b22 q1 k1 μ = some μo) : W p l e (rmd 3) s m args below meth c H locs 0 0 (MQ below (QR ω none μo) args s 0 0 (wA ω)) (F0 m 22 ls [.int k1, .ref (wB ω + 30)]) := by
  have hx := C.1
  have hb := C.2.1
  unfold fX0_push_b22 at h
  obtain ⟨μ1, e2, h⟩ := bd_e h
  refine p_360 C hH hS (jC_30 hW) dX0_push_22 (fun H locs hH hS => ?_)
  have hH := Hd.to e2 hH
  refine lv_aload_n hx hb dX0_push_25 rfl (lv_at hl 0 rfl) ?_
  refine g_357 (i := 31) C hH (jC_30 hW) rfl dX0_push_26 ?_
  refine lv_aload_n hx hb dX0_push_29 rfl (lv_at hl 0 rfl) ?_
  refine g_360 C hH (jC_30 hW) dX0_push_30 ?_
  obtain ⟨b3, h⟩ := gd_e h
  refine h_aald4 C hH (jC_31 hW).1 (jC_31 hW).2.1 (jC_31 hW).2.2 b3 dX0_push_33 ?_
  refine lv_aload_n hx hb dX0_push_34 rfl (lv_at hl 1 rfl) ?_
  obtain ⟨μ5, e4, h⟩ := b1_e h
  refine cVv (as := [.ref (wB ω + q1)]) (rest := []) (c_X7_copyFrom (pC_31 hW (ix_lt b3)) hq1 e4) C hl.1 hH hS rfl (pC_31 hW (ix_lt b3)).1 rfl wd_829 wd_828 mw_X7_copyFrom wd_827 rfl (rm_ok (by decide) (by decide)) (Nat.le_of_ble_eq_true rfl) ⟨Nat.zero_le _, Nat.zero_le _⟩ (by decide) dX0_push_35 (fun H locs hH hS => ?_)
  refine lv_aload_n hx hb dX0_push_38 rfl (lv_at hl 0 rfl) ?_
  refine lv_bipush (v := 40) hx hb dX0_push_39 (by decide) ?_
  refine lv_aload_n hx hb dX0_push_41 rfl (lv_at hl 0 rfl) ?_
  refine g_361 C hH (jC_30 hW) dX0_push_42 ?_
  refine lv_iconst (v := 1) hx hb dX0_push_45 (by decide) ?_
  refine lv_iadd hx hb dX0_push_46 ?_
  refine h_mmin C hl.1 wd_832 (rest := [.ref (wB ω + 30)]) (Nat.le_of_ble_eq_true rfl) (Nat.le_of_ble_eq_true rfl) ⟨Nat.zero_le _, Nat.zero_le _⟩ dX0_push_47 ?_
  refine h_topi (y := jmin 40 ((μ5.1 30 4) + 1)) rfl ?_
  obtain ⟨μ6, e7, h⟩ := bd_e h
  refine p_361 C hH hS (jC_30 hW) dX0_push_50 (fun H locs hH hS => ?_)
  have hH := Hd.to e7 hH
  exact h_vret C hr hk hH hS (by cases h; rfl) dX0_push_53
set_option maxHeartbeats 4000000 in
set_option maxRecDepth 100000 in
theorem wX0_push_e {q1 : Nat} (hW : FWC ω) (hq1 : IsS ω q1) (C : Cx ω p s m args c cX0_push 2 RX0) (hr : meth.sig.returnType = none) (hk : meth.locks = false) {μo : Mem} {μ : Mem} {H : Heap} {locs : List Loc} {ls : Array Slot} (hH : Hd ω μ H) (hS : FS ω s H locs) (hl : lv_has ls 2 [(0, .ref (wB ω + 30)), (1, .ref (wB ω + q1))]) (h : fX0_push q1 μ = some μo) : W p l e (rmd 3) s m args below meth c H locs 0 0 (MQ below (QR ω none μo) args s 0 0 (wA ω)) (F0 m 0 ls []) := by
  have hx := C.1
  have hb := C.2.1
  unfold fX0_push at h
  refine lv_aload_n hx hb dX0_push_0 rfl (lv_at hl 0 rfl) ?_
  refine lv_aload_n hx hb dX0_push_1 rfl (lv_at hl 0 rfl) ?_
  refine g_360 C hH (jC_30 hW) dX0_push_2 ?_
  refine lv_iconst (v := 1) hx hb dX0_push_5 (by decide) ?_
  refine lv_iadd hx hb dX0_push_6 ?_
  refine lv_bipush (v := 40) hx hb dX0_push_7 (by decide) ?_
  refine lv_icmp_ge (tgt := 21) hx hb dX0_push_9 (by decide) (fun hc => ?_) (fun hc => ?_)
  · have h := ite_t hc h
    refine lv_iconst (v := 0) hx hb dX0_push_21 (by decide) ?_
    exact wX0_push_b22 hW hq1 C hr hk hH hS hl h
  · have h := ite_f hc h
    refine lv_aload_n hx hb dX0_push_12 rfl (lv_at hl 0 rfl) ?_
    refine g_360 C hH (jC_30 hW) dX0_push_13 ?_
    refine lv_iconst (v := 1) hx hb dX0_push_16 (by decide) ?_
    refine lv_iadd hx hb dX0_push_17 ?_
    refine lv_goto (tgt := 22) hx hb dX0_push_18 (by decide) ?_
    exact wX0_push_b22 hW hq1 C hr hk hH hS hl h
theorem c_X0_push {l : Launch} {ω : WW} {q1 : Nat} (hW : FWC ω) (hq1 : IsS ω q1) {μ : Mem} {μo : Mem} (h : fX0_push q1 μ = some μo) : Con l yX0_push cX0_push 2 none 3 ω [.ref (wB ω + 30), .ref (wB ω + q1)] μ none μo :=
  con_of (by decide) (Nat.le_of_ble_eq_true rfl) (fun p e s m args below meth c ls C hr hk hl hH hS => wX0_push_e hW hq1 C hr hk hH hS (lv_sub hl [0, 1] rfl) h)
set_option maxHeartbeats 4000000 in
set_option maxRecDepth 100000 in
theorem wX3_number_e {q : Nat} (hq : IsQ ω q) (C : Cx ω p s m args c cX3_number 4 RX3) (hr : meth.sig.returnType = some .int) (hk : meth.locks = false) {rr : Int32} {μ : Mem} {x1 : Int32} {x2 : Int32} {H : Heap} {locs : List Loc} {ls : Array Slot} (hH : Hd ω μ H) (hS : FS ω s H locs) (hl : lv_has ls 4 [(0, .ref (wB ω + q)), (1, .int x1), (2, .int x2)]) (h : fX3_number q x1 x2 μ = some rr) : W p l e (rmd 1) s m args below meth c H locs 0 0 (MQ below (QR ω (some (.int rr)) μ) args s 0 0 (wA ω)) (F0 m 0 ls []) := by
  have hx := C.1
  have hb := C.2.1
  unfold fX3_number at h
  refine lv_iload_n hx hb dX3_number_0 rfl (lv_at hl 1 rfl) ?_
  refine lv_iconst (v := 5) hx hb dX3_number_1 (by decide) ?_
  refine lv_imul hx hb dX3_number_2 ?_
  refine lv_iload_n hx hb dX3_number_3 rfl (lv_at hl 2 rfl) ?_
  refine lv_iadd hx hb dX3_number_4 ?_
  obtain ⟨y1, e2, h⟩ := bd_e h
  refine h_topi e2 ?_
  refine lv_istore_n (lv' := [(3, .int y1), (0, .ref (wB ω + q)), (1, .int x1), (2, .int x2)]) hx hb dX3_number_5 rfl hl (by decide) rfl (fun ls hl => ?_)
  refine lv_iload_n hx hb dX3_number_6 rfl (lv_at hl 0 rfl) ?_
  refine lv_if_lt (tgt := 28) hx hb dX3_number_7 (by decide) (fun hc => ?_) (fun hc => ?_)
  · have h := ite_t hc h
    refine lv_iconst (v := 0) hx hb dX3_number_28 (by decide) ?_
    exact h_iret C hr hk hH hS rfl (by cases h; rfl) dX3_number_29
  · have h := ite_f hc h
    refine lv_iload_n hx hb dX3_number_10 rfl (lv_at hl 0 rfl) ?_
    refine lv_aload_n hx hb dX3_number_11 rfl (lv_at hl 1 rfl) ?_
    refine g_257 (i := q + 1) C hH hq.1 rfl dX3_number_12 ?_
    refine h_alen (v := 30) C hH hq.2.1.1 hq.2.1.2.1 (by decide) (by decide) (by decide) dX3_number_15 ?_
    refine lv_icmp_ge (tgt := 28) hx hb dX3_number_16 (by decide) (fun hc => ?_) (fun hc => ?_)
    · have h := ite_t hc h
      refine lv_iconst (v := 0) hx hb dX3_number_28 (by decide) ?_
      exact h_iret C hr hk hH hS rfl (by cases h; rfl) dX3_number_29
    · have h := ite_f hc h
      refine lv_aload_n hx hb dX3_number_19 rfl (lv_at hl 1 rfl) ?_
      refine g_257 (i := q + 1) C hH hq.1 rfl dX3_number_20 ?_
      refine lv_iload_n hx hb dX3_number_23 rfl (lv_at hl 0 rfl) ?_
      obtain ⟨b3, h⟩ := gd_e h
      refine h_iald C hH hq.2.1.1 hq.2.1.2.1 b3 dX3_number_24 ?_
      refine lv_goto (tgt := 29) hx hb dX3_number_25 (by decide) ?_
      exact h_iret C hr hk hH hS rfl (by cases h; rfl) dX3_number_29
theorem c_X3_number {l : Launch} {ω : WW} {q : Nat} {x1 : Int32} {x2 : Int32} (hq : IsQ ω q) {μ : Mem} {rr : Int32} (h : fX3_number q x1 x2 μ = some rr) : Con l yX3_number cX3_number 4 (some .int) 1 ω [.ref (wB ω + q), .int x1, .int x2] μ (some (.int rr)) μ :=
  con_of (by decide) (Nat.le_of_ble_eq_true rfl) (fun p e s m args below meth c ls C hr hk hl hH hS => wX3_number_e hq C hr hk hH hS (lv_sub hl [0, 1, 2] rfl) h)
set_option maxHeartbeats 4000000 in
set_option maxRecDepth 100000 in
theorem wX3_xOf_e {q : Nat} (hq : IsQ ω q) (C : Cx ω p s m args c cX3_xOf 2 RX3) (hr : meth.sig.returnType = some .int) (hk : meth.locks = false) {rr : Int32} {μ : Mem} {x1 : Int32} {H : Heap} {locs : List Loc} {ls : Array Slot} (hH : Hd ω μ H) (hS : FS ω s H locs) (hl : lv_has ls 2 [(0, .ref (wB ω + q)), (1, .int x1)]) (h : fX3_xOf q x1 μ = some rr) : W p l e (rmd 2) s m args below meth c H locs 0 0 (MQ below (QR ω (some (.int rr)) μ) args s 0 0 (wA ω)) (F0 m 0 ls []) := by
  have hx := C.1
  have hb := C.2.1
  unfold fX3_xOf at h
  refine lv_aload_n hx hb dX3_xOf_0 rfl (lv_at hl 0 rfl) ?_
  refine lv_iload_n hx hb dX3_xOf_1 rfl (lv_at hl 1 rfl) ?_
  refine lv_iconst (v := 3) hx hb dX3_xOf_2 (by decide) ?_
  obtain ⟨r2, e1, h⟩ := b1_e h
  refine cVi (as := [.int x1, .int 3]) (rest := []) (c_X3_number hq e1) C hl.1 hH hS rfl hq.1 rfl wd_725 wd_724 mw_X3_number wd_723 rfl (rm_ok (by decide) (by decide)) (Nat.le_of_ble_eq_true rfl) ⟨Nat.zero_le _, Nat.zero_le _⟩ (by decide) dX3_xOf_3 (fun H locs hH hS => ?_)
  exact h_iret C hr hk hH hS rfl (by cases h; rfl) dX3_xOf_6
theorem c_X3_xOf {l : Launch} {ω : WW} {q : Nat} {x1 : Int32} (hq : IsQ ω q) {μ : Mem} {rr : Int32} (h : fX3_xOf q x1 μ = some rr) : Con l yX3_xOf cX3_xOf 2 (some .int) 2 ω [.ref (wB ω + q), .int x1] μ (some (.int rr)) μ :=
  con_of (by decide) (Nat.le_of_ble_eq_true rfl) (fun p e s m args below meth c ls C hr hk hl hH hS => wX3_xOf_e hq C hr hk hH hS (lv_sub hl [0, 1] rfl) h)
set_option maxHeartbeats 4000000 in
set_option maxRecDepth 100000 in
theorem wX3_yOf_e {q : Nat} (hq : IsQ ω q) (C : Cx ω p s m args c cX3_yOf 2 RX3) (hr : meth.sig.returnType = some .int) (hk : meth.locks = false) {rr : Int32} {μ : Mem} {x1 : Int32} {H : Heap} {locs : List Loc} {ls : Array Slot} (hH : Hd ω μ H) (hS : FS ω s H locs) (hl : lv_has ls 2 [(0, .ref (wB ω + q)), (1, .int x1)]) (h : fX3_yOf q x1 μ = some rr) : W p l e (rmd 2) s m args below meth c H locs 0 0 (MQ below (QR ω (some (.int rr)) μ) args s 0 0 (wA ω)) (F0 m 0 ls []) := by
  have hx := C.1
  have hb := C.2.1
  unfold fX3_yOf at h
  refine lv_aload_n hx hb dX3_yOf_0 rfl (lv_at hl 0 rfl) ?_
  refine lv_iload_n hx hb dX3_yOf_1 rfl (lv_at hl 1 rfl) ?_
  refine lv_iconst (v := 4) hx hb dX3_yOf_2 (by decide) ?_
  obtain ⟨r2, e1, h⟩ := b1_e h
  refine cVi (as := [.int x1, .int 4]) (rest := []) (c_X3_number hq e1) C hl.1 hH hS rfl hq.1 rfl wd_725 wd_724 mw_X3_number wd_723 rfl (rm_ok (by decide) (by decide)) (Nat.le_of_ble_eq_true rfl) ⟨Nat.zero_le _, Nat.zero_le _⟩ (by decide) dX3_yOf_3 (fun H locs hH hS => ?_)
  exact h_iret C hr hk hH hS rfl (by cases h; rfl) dX3_yOf_6
theorem c_X3_yOf {l : Launch} {ω : WW} {q : Nat} {x1 : Int32} (hq : IsQ ω q) {μ : Mem} {rr : Int32} (h : fX3_yOf q x1 μ = some rr) : Con l yX3_yOf cX3_yOf 2 (some .int) 2 ω [.ref (wB ω + q), .int x1] μ (some (.int rr)) μ :=
  con_of (by decide) (Nat.le_of_ble_eq_true rfl) (fun p e s m args below meth c ls C hr hk hl hH hS => wX3_yOf_e hq C hr hk hH hS (lv_sub hl [0, 1] rfl) h)
set_option maxHeartbeats 4000000 in
set_option maxRecDepth 100000 in
theorem wX3_distance_e {q : Nat} (hq : IsQ ω q) (C : Cx ω p s m args c cX3_distance 3 RX3) (hr : meth.sig.returnType = some .int) (hk : meth.locks = false) {rr : Int32} {μ : Mem} {x1 : Int32} {x2 : Int32} {H : Heap} {locs : List Loc} {ls : Array Slot} (hH : Hd ω μ H) (hS : FS ω s H locs) (hl : lv_has ls 3 [(0, .ref (wB ω + q)), (1, .int x1), (2, .int x2)]) (h : fX3_distance q x1 x2 μ = some rr) : W p l e (rmd 3) s m args below meth c H locs 0 0 (MQ below (QR ω (some (.int rr)) μ) args s 0 0 (wA ω)) (F0 m 0 ls []) := by
  have hx := C.1
  have hb := C.2.1
  unfold fX3_distance at h
  refine lv_aload_n hx hb dX3_distance_0 rfl (lv_at hl 0 rfl) ?_
  refine lv_iload_n hx hb dX3_distance_1 rfl (lv_at hl 1 rfl) ?_
  obtain ⟨r2, e1, h⟩ := b1_e h
  refine cVi (as := [.int x1]) (rest := []) (c_X3_xOf hq e1) C hl.1 hH hS rfl hq.1 rfl wd_777 wd_776 mw_X3_xOf wd_1031 rfl (rm_ok (by decide) (by decide)) (Nat.le_of_ble_eq_true rfl) ⟨Nat.zero_le _, Nat.zero_le _⟩ (by decide) dX3_distance_2 (fun H locs hH hS => ?_)
  refine lv_aload_n hx hb dX3_distance_5 rfl (lv_at hl 0 rfl) ?_
  refine lv_iload_n hx hb dX3_distance_6 rfl (lv_at hl 2 rfl) ?_
  obtain ⟨r4, e3, h⟩ := b1_e h
  refine cVi (as := [.int x2]) (rest := [.int r2]) (c_X3_xOf hq e3) C hl.1 hH hS rfl hq.1 rfl wd_777 wd_776 mw_X3_xOf wd_1031 rfl (rm_ok (by decide) (by decide)) (Nat.le_of_ble_eq_true rfl) ⟨Nat.zero_le _, Nat.zero_le _⟩ (by decide) dX3_distance_7 (fun H locs hH hS => ?_)
  refine lv_isub hx hb dX3_distance_10 ?_
  refine h_mabs C hl.1 wd_1032 (rest := []) (Nat.le_of_ble_eq_true rfl) (Nat.le_of_ble_eq_true rfl) ⟨Nat.zero_le _, Nat.zero_le _⟩ dX3_distance_11 ?_
  refine h_topi (y := jabs (r2 - r4)) rfl ?_
  refine lv_aload_n hx hb dX3_distance_14 rfl (lv_at hl 0 rfl) ?_
  refine lv_iload_n hx hb dX3_distance_15 rfl (lv_at hl 1 rfl) ?_
  obtain ⟨r6, e5, h⟩ := b1_e h
  refine cVi (as := [.int x1]) (rest := [.int (jabs (r2 - r4))]) (c_X3_yOf hq e5) C hl.1 hH hS rfl hq.1 rfl wd_781 wd_780 mw_X3_yOf wd_1035 rfl (rm_ok (by decide) (by decide)) (Nat.le_of_ble_eq_true rfl) ⟨Nat.zero_le _, Nat.zero_le _⟩ (by decide) dX3_distance_16 (fun H locs hH hS => ?_)
  refine lv_aload_n hx hb dX3_distance_19 rfl (lv_at hl 0 rfl) ?_
  refine lv_iload_n hx hb dX3_distance_20 rfl (lv_at hl 2 rfl) ?_
  obtain ⟨r8, e7, h⟩ := b1_e h
  refine cVi (as := [.int x2]) (rest := [.int r6, .int (jabs (r2 - r4))]) (c_X3_yOf hq e7) C hl.1 hH hS rfl hq.1 rfl wd_781 wd_780 mw_X3_yOf wd_1035 rfl (rm_ok (by decide) (by decide)) (Nat.le_of_ble_eq_true rfl) ⟨Nat.zero_le _, Nat.zero_le _⟩ (by decide) dX3_distance_21 (fun H locs hH hS => ?_)
  refine lv_isub hx hb dX3_distance_24 ?_
  refine h_mabs C hl.1 wd_1032 (rest := [.int (jabs (r2 - r4))]) (Nat.le_of_ble_eq_true rfl) (Nat.le_of_ble_eq_true rfl) ⟨Nat.zero_le _, Nat.zero_le _⟩ dX3_distance_25 ?_
  refine h_topi (y := jabs (r6 - r8)) rfl ?_
  refine lv_iadd hx hb dX3_distance_28 ?_
  exact h_iret C hr hk hH hS rfl (by cases h; rfl) dX3_distance_29
theorem c_X3_distance {l : Launch} {ω : WW} {q : Nat} {x1 : Int32} {x2 : Int32} (hq : IsQ ω q) {μ : Mem} {rr : Int32} (h : fX3_distance q x1 x2 μ = some rr) : Con l yX3_distance cX3_distance 3 (some .int) 3 ω [.ref (wB ω + q), .int x1, .int x2] μ (some (.int rr)) μ :=
  con_of (by decide) (Nat.le_of_ble_eq_true rfl) (fun p e s m args below meth c ls C hr hk hl hH hS => wX3_distance_e hq C hr hk hH hS (lv_sub hl [0, 1, 2] rfl) h)
set_option maxHeartbeats 4000000 in
set_option maxRecDepth 100000 in
theorem wX10_goOn_b14 {D : Nat} (hD : 10 ≤ D) {q1 : Nat} (hW : FWC ω) (hq1 : IsQ ω q1) (C : Cx ω p s m args c cX10_goOn 6 RX10) (hr : meth.sig.returnType = none) (hk : meth.locks = false) {μo : Mem} {go : Nat → Int32 → Int32 → Int32 → Mem → Option Mem} (hgo : ∀ (q1g : Nat) (x2g : Int32) (x3g : Int32) (x4g : Int32) (μ1 : Mem) (μ2 : Mem) (_ : IsQ ω q1g), go q1g x2g x3g x4g μ1 = some μ2 → Con l yX10_goOn cX10_goOn 6 (none) D ω [.ref (wB ω + 177), .ref (wB ω + q1g), .int x2g, .int x3g, .int x4g] μ1 none μ2) {x4 : Int32} {μ : Mem} {H : Heap} {locs : List Loc} {ls : Array Slot} (hH : Hd ω μ H) (hS : FS ω s H locs) (hl : lv_has ls 6 [(0, .ref (wB ω + 177)), (4, .int x4)]) (h : fX10_goOn_b14 go q1 x4 μ = some μo) : W p l e (rmd (D + 1)) s m args below meth c H locs 0 0 (MQ below (QR ω none μo) args s 0 0 (wA ω)) (F0 m 14 ls []) := by
  have hx := C.1
  have hb := C.2.1
  unfold fX10_goOn_b14 at h
  refine lv_iload hx hb dX10_goOn_14 (lv_at hl 1 rfl) ?_
  refine lv_aload_n hx hb dX10_goOn_16 rfl (lv_at hl 0 rfl) ?_
  refine g_413 C hH (jC_177 hW) dX10_goOn_17 ?_
  refine lv_icmp_ge (tgt := 44) hx hb dX10_goOn_20 (by decide) (fun hc => ?_) (fun hc => ?_)
  · have h := ite_t hc h
    exact h_vret C hr hk hH hS (by cases h; rfl) dX10_goOn_44
  · have h := ite_f hc h
    refine lv_aload_n hx hb dX10_goOn_23 rfl (lv_at hl 0 rfl) ?_
    refine lv_iload hx hb dX10_goOn_24 (lv_at hl 1 rfl) ?_
    obtain ⟨μ1, e2, h⟩ := bd_e h
    refine p_413 C hH hS (jC_177 hW) dX10_goOn_26 (fun H locs hH hS => ?_)
    have hH := Hd.to e2 hH
    refine lv_aload_n hx hb dX10_goOn_29 rfl (lv_at hl 0 rfl) ?_
    refine g_410 (i := 178) C hH (jC_177 hW) rfl dX10_goOn_30 ?_
    refine lv_iconst (v := 0) hx hb dX10_goOn_33 (by decide) ?_
    refine lv_aload_n hx hb dX10_goOn_34 rfl (lv_at hl 0 rfl) ?_
    refine g_411 (i := 179) C hH (jC_177 hW) rfl dX10_goOn_35 ?_
    refine lv_iconst (v := 0) hx hb dX10_goOn_38 (by decide) ?_
    refine lv_bipush (v := 6) hx hb dX10_goOn_39 (by decide) ?_
    obtain ⟨b3, h⟩ := gd_e h
    obtain ⟨μ4, e5, h⟩ := bd_e h
    refine h_copyi (rest := []) C hl.1 hH hS (jC_178 hW).1 (jC_178 hW).2.1 (jC_179 hW).1 (jC_179 hW).2.1 wd_1049 (cpo_e b3) (rm_1 hD) (rm_cp hD (Nat.le_of_ble_eq_true rfl)) dX10_goOn_41 (fun H locs hH hS => ?_)
    have hH := Hd.to e5 hH
    exact h_vret C hr hk hH hS (by cases h; rfl) dX10_goOn_44
set_option maxHeartbeats 4000000 in
set_option maxRecDepth 100000 in
theorem wX10_goOn_s48 {D : Nat} (hD : 10 ≤ D) {q1 : Nat} (hW : FWC ω) (hq1 : IsQ ω q1) (C : Cx ω p s m args c cX10_goOn 6 RX10) (hr : meth.sig.returnType = none) (hk : meth.locks = false) {μo : Mem} {go : Nat → Int32 → Int32 → Int32 → Mem → Option Mem} (hgo : ∀ (q1g : Nat) (x2g : Int32) (x3g : Int32) (x4g : Int32) (μ1 : Mem) (μ2 : Mem) (_ : IsQ ω q1g), go q1g x2g x3g x4g μ1 = some μ2 → Con l yX10_goOn cX10_goOn 6 (none) D ω [.ref (wB ω + 177), .ref (wB ω + q1g), .int x2g, .int x3g, .int x4g] μ1 none μ2) {x2 : Int32} {x3 : Int32} {x4 : Int32} {x5 : Int32} {rec : Int32 → Mem → Option Mem} (hrec : ∀ (z5 : Int32) (ν : Mem) (H : Heap) (locs : List Loc) (ls : Array Slot), Hd ω ν H → FS ω s H locs → lv_has ls 6 [(0, .ref (wB ω + 177)), (1, .ref (wB ω + q1)), (2, .int x2), (3, .int x3), (4, .int x4), (5, .int z5)] → rec z5 ν = some μo → W p l e (rmd (D + 1)) s m args below meth c H locs 0 0 (MQ below (QR ω none μo) args s 0 0 (wA ω)) (F0 m 48 ls [])) {μ : Mem} {H : Heap} {locs : List Loc} {ls : Array Slot} (hH : Hd ω μ H) (hS : FS ω s H locs) (hl : lv_has ls 6 [(0, .ref (wB ω + 177)), (1, .ref (wB ω + q1)), (2, .int x2), (3, .int x3), (4, .int x4), (5, .int x5)]) (h : fX10_goOn_s48 go rec q1 x2 x3 x4 x5 μ = some μo) : W p l e (rmd (D + 1)) s m args below meth c H locs 0 0 (MQ below (QR ω none μo) args s 0 0 (wA ω)) (F0 m 48 ls []) := by
  have hx := C.1
  have hb := C.2.1
  unfold fX10_goOn_s48 at h
  refine lv_iload hx hb dX10_goOn_48 (lv_at hl 5 rfl) ?_
  refine lv_aload_n hx hb dX10_goOn_50 rfl (lv_at hl 1 rfl) ?_
  refine g_263 C hH hq1.1 dX10_goOn_51 ?_
  refine lv_icmp_ge (tgt := 111) hx hb dX10_goOn_54 (by decide) (fun hc => ?_) (fun hc => ?_)
  · have h := ite_t hc h
    exact h_vret C hr hk hH hS (by cases h; rfl) dX10_goOn_111
  · have h := ite_f hc h
    refine lv_iload_n hx hb dX10_goOn_57 rfl (lv_at hl 3 rfl) ?_
    refine lv_iload hx hb dX10_goOn_58 (lv_at hl 5 rfl) ?_
    refine lv_ishr hx hb dX10_goOn_60 ?_
    refine lv_iconst (v := 1) hx hb dX10_goOn_61 (by decide) ?_
    refine lv_iand hx hb dX10_goOn_62 ?_
    refine lv_if_ne (tgt := 105) hx hb dX10_goOn_63 (by decide) (fun hc => ?_) (fun hc => ?_)
    · have h := ite_f hc h
      refine lv_iinc (v := x5 + 1) (lv' := [(5, .int (x5 + 1)), (0, .ref (wB ω + 177)), (1, .ref (wB ω + q1)), (2, .int x2), (3, .int x3), (4, .int x4)]) hx hb dX10_goOn_105 hl (k := 5) rfl rfl (by decide) rfl (fun ls hl => ?_)
      refine lv_goto (tgt := 48) hx hb dX10_goOn_108 (by decide) ?_
      exact hrec _ _ H locs ls hH hS (lv_sub hl [1, 2, 3, 4, 5, 0] rfl) h
    · have h := ite_t hc h
      refine lv_aload_n hx hb dX10_goOn_66 rfl (lv_at hl 0 rfl) ?_
      refine g_410 (i := 178) C hH (jC_177 hW) rfl dX10_goOn_67 ?_
      refine lv_iload_n hx hb dX10_goOn_70 rfl (lv_at hl 2 rfl) ?_
      refine lv_iload hx hb dX10_goOn_71 (lv_at hl 5 rfl) ?_
      obtain ⟨b6, h⟩ := gd_e h
      obtain ⟨μ7, e8, h⟩ := bd_e h
      refine h_iast C hH hS (jC_178 hW).1 (jC_178 hW).2.1 b6 dX10_goOn_73 (fun H locs hH hS => ?_)
      have hH := Hd.to e8 hH
      refine lv_aload_n hx hb dX10_goOn_74 rfl (lv_at hl 0 rfl) ?_
      refine lv_aload_n hx hb dX10_goOn_75 rfl (lv_at hl 1 rfl) ?_
      refine lv_iload_n hx hb dX10_goOn_76 rfl (lv_at hl 2 rfl) ?_
      refine lv_iconst (v := 1) hx hb dX10_goOn_77 (by decide) ?_
      refine lv_iadd hx hb dX10_goOn_78 ?_
      refine lv_iload_n hx hb dX10_goOn_79 rfl (lv_at hl 3 rfl) ?_
      refine lv_iconst (v := 1) hx hb dX10_goOn_80 (by decide) ?_
      refine lv_iload hx hb dX10_goOn_81 (lv_at hl 5 rfl) ?_
      refine lv_ishl hx hb dX10_goOn_83 ?_
      refine lv_ior hx hb dX10_goOn_84 ?_
      refine lv_iload hx hb dX10_goOn_85 (lv_at hl 4 rfl) ?_
      refine lv_aload_n hx hb dX10_goOn_87 rfl (lv_at hl 1 rfl) ?_
      refine lv_aload_n hx hb dX10_goOn_88 rfl (lv_at hl 0 rfl) ?_
      refine g_410 (i := 178) C hH (jC_177 hW) rfl dX10_goOn_89 ?_
      refine lv_iload_n hx hb dX10_goOn_92 rfl (lv_at hl 2 rfl) ?_
      refine lv_iconst (v := 1) hx hb dX10_goOn_93 (by decide) ?_
      refine lv_isub hx hb dX10_goOn_94 ?_
      obtain ⟨b9, h⟩ := gd_e h
      refine h_iald C hH (jC_178 hW).1 (jC_178 hW).2.1 b9 dX10_goOn_95 ?_
      refine lv_iload hx hb dX10_goOn_96 (lv_at hl 5 rfl) ?_
      obtain ⟨r11, e10, h⟩ := b1_e h
      refine cVi (as := [.int (μ7.1 178 ((x2 - 1).toNatClampNeg)), .int x5]) (rest := [.int x4, .int (x3 ||| ((1 : Int32) <<< (x5 &&& 31))), .int (x2 + 1), .ref (wB ω + q1), .ref (wB ω + 177)]) (c_X3_distance hq1 e10) C hl.1 hH hS rfl hq1.1 rfl wd_1029 wd_1028 mw_X3_distance wd_1050 rfl (rm_ok (by omega) (by decide)) (Nat.le_of_ble_eq_true rfl) ⟨Nat.zero_le _, Nat.zero_le _⟩ (by decide) dX10_goOn_98 (fun H locs hH hS => ?_)
      refine lv_iadd hx hb dX10_goOn_101 ?_
      obtain ⟨μ13, e12, h⟩ := b1_e h
      refine cVv (as := [.ref (wB ω + q1), .int (x2 + 1), .int (x3 ||| ((1 : Int32) <<< (x5 &&& 31))), .int (x4 + r11)]) (rest := []) (hgo _ _ _ _ _ _ hq1 e12) C hl.1 hH hS rfl (jC_177 hW) rfl wd_24 wd_1047 mw_X10_goOn wd_1045 rfl (rm_ok (by omega) (by decide)) (Nat.le_of_ble_eq_true rfl) ⟨Nat.zero_le _, Nat.zero_le _⟩ (by decide) dX10_goOn_102 (fun H locs hH hS => ?_)
      refine lv_iinc (v := x5 + 1) (lv' := [(5, .int (x5 + 1)), (0, .ref (wB ω + 177)), (1, .ref (wB ω + q1)), (2, .int x2), (3, .int x3), (4, .int x4)]) hx hb dX10_goOn_105 hl (k := 5) rfl rfl (by decide) rfl (fun ls hl => ?_)
      refine lv_goto (tgt := 48) hx hb dX10_goOn_108 (by decide) ?_
      exact hrec _ _ H locs ls hH hS (lv_sub hl [1, 2, 3, 4, 5, 0] rfl) h
theorem wX10_goOn_l48 {D : Nat} (hD : 10 ≤ D) {q1 : Nat} (hW : FWC ω) (hq1 : IsQ ω q1) (C : Cx ω p s m args c cX10_goOn 6 RX10) (hr : meth.sig.returnType = none) (hk : meth.locks = false) {μo : Mem} {go : Nat → Int32 → Int32 → Int32 → Mem → Option Mem} (hgo : ∀ (q1g : Nat) (x2g : Int32) (x3g : Int32) (x4g : Int32) (μ1 : Mem) (μ2 : Mem) (_ : IsQ ω q1g), go q1g x2g x3g x4g μ1 = some μ2 → Con l yX10_goOn cX10_goOn 6 (none) D ω [.ref (wB ω + 177), .ref (wB ω + q1g), .int x2g, .int x3g, .int x4g] μ1 none μ2) {x2 : Int32} {x3 : Int32} {x4 : Int32} : ∀ (n : Nat) (x5 : Int32) (μ : Mem) (H : Heap) (locs : List Loc) (ls : Array Slot), Hd ω μ H → FS ω s H locs → lv_has ls 6 [(0, .ref (wB ω + 177)), (1, .ref (wB ω + q1)), (2, .int x2), (3, .int x3), (4, .int x4), (5, .int x5)] → fX10_goOn_l48 go q1 x2 x3 x4 n x5 μ = some μo → W p l e (rmd (D + 1)) s m args below meth c H locs 0 0 (MQ below (QR ω none μo) args s 0 0 (wA ω)) (F0 m 48 ls []) := by
  intro n
  induction n with
  | zero => intro x5 μ H locs ls hH hS hl h; cases h
  | succ n ih => intro x5 μ H locs ls hH hS hl h; exact wX10_goOn_s48 hD hW hq1 C hr hk hgo ih hH hS hl h
set_option maxHeartbeats 4000000 in
set_option maxRecDepth 100000 in
theorem wX10_goOn_b {D : Nat} (hD : 10 ≤ D) {q1 : Nat} (hW : FWC ω) (hq1 : IsQ ω q1) (C : Cx ω p s m args c cX10_goOn 6 RX10) (hr : meth.sig.returnType = none) (hk : meth.locks = false) {μo : Mem} {go : Nat → Int32 → Int32 → Int32 → Mem → Option Mem} (hgo : ∀ (q1g : Nat) (x2g : Int32) (x3g : Int32) (x4g : Int32) (μ1 : Mem) (μ2 : Mem) (_ : IsQ ω q1g), go q1g x2g x3g x4g μ1 = some μ2 → Con l yX10_goOn cX10_goOn 6 (none) D ω [.ref (wB ω + 177), .ref (wB ω + q1g), .int x2g, .int x3g, .int x4g] μ1 none μ2) {x2 : Int32} {x3 : Int32} {x4 : Int32} {μ : Mem} {H : Heap} {locs : List Loc} {ls : Array Slot} (hH : Hd ω μ H) (hS : FS ω s H locs) (hl : lv_has ls 6 [(0, .ref (wB ω + 177)), (1, .ref (wB ω + q1)), (2, .int x2), (3, .int x3), (4, .int x4)]) (h : fX10_goOn_b go q1 x2 x3 x4 μ = some μo) : W p l e (rmd (D + 1)) s m args below meth c H locs 0 0 (MQ below (QR ω none μo) args s 0 0 (wA ω)) (F0 m 0 ls []) := by
  have hx := C.1
  have hb := C.2.1
  unfold fX10_goOn_b at h
  refine lv_iload_n hx hb dX10_goOn_0 rfl (lv_at hl 2 rfl) ?_
  refine lv_aload_n hx hb dX10_goOn_1 rfl (lv_at hl 1 rfl) ?_
  refine g_263 C hH hq1.1 dX10_goOn_2 ?_
  refine lv_icmp_ge (tgt := 14) hx hb dX10_goOn_5 (by decide) (fun hc => ?_) (fun hc => ?_)
  · have h := ite_t hc h
    exact wX10_goOn_b14 hD hW hq1 C hr hk hgo hH hS (lv_sub hl [0, 4] rfl) h
  · have h := ite_f hc h
    refine lv_iload_n hx hb dX10_goOn_8 rfl (lv_at hl 2 rfl) ?_
    refine lv_bipush (v := 6) hx hb dX10_goOn_9 (by decide) ?_
    refine lv_icmp_lt (tgt := 45) hx hb dX10_goOn_11 (by decide) (fun hc => ?_) (fun hc => ?_)
    · have h := ite_t hc h
      refine lv_iconst (v := 0) hx hb dX10_goOn_45 (by decide) ?_
      refine lv_istore (lv' := [(5, .int 0), (0, .ref (wB ω + 177)), (1, .ref (wB ω + q1)), (2, .int x2), (3, .int x3), (4, .int x4)]) hx hb dX10_goOn_46 hl (by decide) rfl (fun ls hl => ?_)
      exact wX10_goOn_l48 hD hW hq1 C hr hk hgo FU _ _ H locs ls hH hS (lv_sub hl [1, 2, 3, 4, 5, 0] rfl) h
    · have h := ite_f hc h
      exact wX10_goOn_b14 hD hW hq1 C hr hk hgo hH hS (lv_sub hl [0, 4] rfl) h
theorem c_X10_goOn_b {l : Launch} {ω : WW} {D : Nat} (hD : 10 ≤ D) {go : Nat → Int32 → Int32 → Int32 → Mem → Option Mem} (hgo : ∀ (q1g : Nat) (x2g : Int32) (x3g : Int32) (x4g : Int32) (μ1 : Mem) (μ2 : Mem) (_ : IsQ ω q1g), go q1g x2g x3g x4g μ1 = some μ2 → Con l yX10_goOn cX10_goOn 6 (none) D ω [.ref (wB ω + 177), .ref (wB ω + q1g), .int x2g, .int x3g, .int x4g] μ1 none μ2) {q1 : Nat} {x2 : Int32} {x3 : Int32} {x4 : Int32} (hW : FWC ω) (hq1 : IsQ ω q1) {μ : Mem} {μo : Mem} (h : fX10_goOn_b go q1 x2 x3 x4 μ = some μo) : Con l yX10_goOn cX10_goOn 6 none (D + 1) ω [.ref (wB ω + 177), .ref (wB ω + q1), .int x2, .int x3, .int x4] μ none μo :=
  con_of (by decide) (Nat.le_of_ble_eq_true rfl) (fun p e s m args below meth c ls C hr hk hl hH hS => wX10_goOn_b hD hW hq1 C hr hk hgo hH hS (lv_sub hl [0, 1, 2, 3, 4] rfl) h)
theorem c_X10_goOn_n {l : Launch} {ω : WW} (hW : FWC ω) : ∀ (n : Nat) (q1 : Nat) (x2 : Int32) (x3 : Int32) (x4 : Int32) (μ : Mem) (μo : Mem) (hq1 : IsQ ω q1), fX10_goOn n q1 x2 x3 x4 μ = some μo → Con l yX10_goOn cX10_goOn 6 none (10 + 1 * n) ω [.ref (wB ω + 177), .ref (wB ω + q1), .int x2, .int x3, .int x4] μ none μo := by
  intro n
  induction n with
  | zero => intro q1 x2 x3 x4 μ μo hq1 h; cases h
  | succ n ih => intro q1 x2 x3 x4 μ μo hq1 h; exact c_X10_goOn_b (D := 10 + 1 * n) (by omega) ih hW hq1 h
set_option maxHeartbeats 4000000 in
set_option maxRecDepth 100000 in
theorem wX10_search_e {q1 : Nat} (hW : FWC ω) (hq1 : IsQ ω q1) (C : Cx ω p s m args c cX10_search 3 RX10) (hr : meth.sig.returnType = none) (hk : meth.locks = false) {μo : Mem} {x2 : Int32} {μ : Mem} {H : Heap} {locs : List Loc} {ls : Array Slot} (hH : Hd ω μ H) (hS : FS ω s H locs) (hl : lv_has ls 3 [(0, .ref (wB ω + 177)), (1, .ref (wB ω + q1)), (2, .int x2)]) (h : fX10_search q1 x2 μ = some μo) : W p l e (rmd 19) s m args below meth c H locs 0 0 (MQ below (QR ω none μo) args s 0 0 (wA ω)) (F0 m 0 ls []) := by
  have hx := C.1
  have hb := C.2.1
  unfold fX10_search at h
  refine lv_aload_n hx hb dX10_search_0 rfl (lv_at hl 0 rfl) ?_
  refine lv_ldc (v := 1000000) hx hb C.2.2.2.1 (C.2.2.2.2.1 _ (tg wd_1044 rfl)) dX10_search_1 ?_
  obtain ⟨μ1, e2, h⟩ := bd_e h
  refine p_413 C hH hS (jC_177 hW) dX10_search_3 (fun H locs hH hS => ?_)
  have hH := Hd.to e2 hH
  refine lv_aload_n hx hb dX10_search_6 rfl (lv_at hl 0 rfl) ?_
  refine g_410 (i := 178) C hH (jC_177 hW) rfl dX10_search_7 ?_
  refine lv_iconst (v := 0) hx hb dX10_search_10 (by decide) ?_
  refine lv_iload_n hx hb dX10_search_11 rfl (lv_at hl 2 rfl) ?_
  obtain ⟨μ3, e4, h⟩ := bd_e h
  refine h_iast C hH hS (jC_178 hW).1 (jC_178 hW).2.1 (by decide) dX10_search_12 (fun H locs hH hS => ?_)
  have hH := Hd.to e4 hH
  refine lv_aload_n hx hb dX10_search_13 rfl (lv_at hl 0 rfl) ?_
  refine lv_aload_n hx hb dX10_search_14 rfl (lv_at hl 1 rfl) ?_
  refine lv_iconst (v := 1) hx hb dX10_search_15 (by decide) ?_
  refine lv_iconst (v := 1) hx hb dX10_search_16 (by decide) ?_
  refine lv_iload_n hx hb dX10_search_17 rfl (lv_at hl 2 rfl) ?_
  refine lv_ishl hx hb dX10_search_18 ?_
  refine lv_iconst (v := 0) hx hb dX10_search_19 (by decide) ?_
  obtain ⟨μ6, e5, h⟩ := b1_e h
  refine cVv (as := [.ref (wB ω + q1), .int 1, .int ((1 : Int32) <<< (x2 &&& 31)), .int 0]) (rest := []) (c_X10_goOn_n hW 8 _ _ _ _ _ _ hq1 e5) C hl.1 hH hS rfl (jC_177 hW) rfl wd_24 wd_1047 mw_X10_goOn wd_1045 rfl (rm_ok (by decide) (by decide)) (Nat.le_of_ble_eq_true rfl) ⟨Nat.zero_le _, Nat.zero_le _⟩ (by decide) dX10_search_20 (fun H locs hH hS => ?_)
  exact h_vret C hr hk hH hS (by cases h; rfl) dX10_search_23
theorem c_X10_search {l : Launch} {ω : WW} {q1 : Nat} {x2 : Int32} (hW : FWC ω) (hq1 : IsQ ω q1) {μ : Mem} {μo : Mem} (h : fX10_search q1 x2 μ = some μo) : Con l yX10_search cX10_search 3 none 19 ω [.ref (wB ω + 177), .ref (wB ω + q1), .int x2] μ none μo :=
  con_of (by decide) (Nat.le_of_ble_eq_true rfl) (fun p e s m args below meth c ls C hr hk hl hH hS => wX10_search_e hW hq1 C hr hk hH hS (lv_sub hl [0, 1, 2] rfl) h)
set_option maxHeartbeats 4000000 in
set_option maxRecDepth 100000 in
theorem wX11_back_e (hW : FWC ω) (C : Cx ω p s m args c cX11_back 2 RX11) (hr : meth.sig.returnType = some .int) (hk : meth.locks = false) {rr : Int32} {μo : Mem} {x1 : Int32} {μ : Mem} {H : Heap} {locs : List Loc} {ls : Array Slot} (hH : Hd ω μ H) (hS : FS ω s H locs) (hl : lv_has ls 2 [(0, .ref (wB ω + 1)), (1, .int x1)]) (h : fX11_back x1 μ = some (rr, μo)) : W p l e (rmd 1) s m args below meth c H locs 0 0 (MQ below (QR ω (some (.int rr)) μo) args s 0 0 (wA ω)) (F0 m 0 ls []) := by
  have hx := C.1
  have hb := C.2.1
  unfold fX11_back at h
  refine lv_iload_n hx hb dX11_back_0 rfl (lv_at hl 1 rfl) ?_
  refine lv_if_lt (tgt := 12) hx hb dX11_back_1 (by decide) (fun hc => ?_) (fun hc => ?_)
  · have h := ite_t hc h
    refine lv_iconst (v := (-1)) hx hb dX11_back_12 (by decide) ?_
    exact h_iret C hr hk hH hS rfl (by cases h; rfl) dX11_back_13
  · have h := ite_f hc h
    refine lv_iload_n hx hb dX11_back_4 rfl (lv_at hl 1 rfl) ?_
    refine lv_aload_n hx hb dX11_back_5 rfl (lv_at hl 0 rfl) ?_
    refine g_489 C hH (jC_1 hW) dX11_back_6 ?_
    refine lv_icmp_le (tgt := 14) hx hb dX11_back_9 (by decide) (fun hc => ?_) (fun hc => ?_)
    · have h := ite_t hc h
      refine lv_aload_n hx hb dX11_back_14 rfl (lv_at hl 0 rfl) ?_
      refine lv_dup hx hb dX11_back_15 rfl ?_
      refine g_489 C hH (jC_1 hW) dX11_back_16 ?_
      refine lv_iload_n hx hb dX11_back_19 rfl (lv_at hl 1 rfl) ?_
      refine lv_isub hx hb dX11_back_20 ?_
      obtain ⟨μ1, e2, h⟩ := bd_e h
      refine p_489 C hH hS (jC_1 hW) dX11_back_21 (fun H locs hH hS => ?_)
      have hH := Hd.to e2 hH
      refine lv_aload_n hx hb dX11_back_24 rfl (lv_at hl 0 rfl) ?_
      refine g_489 C hH (jC_1 hW) dX11_back_25 ?_
      exact h_iret C hr hk hH hS rfl (by cases h; rfl) dX11_back_28
    · have h := ite_f hc h
      refine lv_iconst (v := (-1)) hx hb dX11_back_12 (by decide) ?_
      exact h_iret C hr hk hH hS rfl (by cases h; rfl) dX11_back_13
theorem c_X11_back {l : Launch} {ω : WW} {x1 : Int32} (hW : FWC ω) {μ : Mem} {rr : Int32} {μo : Mem} (h : fX11_back x1 μ = some (rr, μo)) : Con l yX11_back cX11_back 2 (some .int) 1 ω [.ref (wB ω + 1), .int x1] μ (some (.int rr)) μo :=
  con_of (by decide) (Nat.le_of_ble_eq_true rfl) (fun p e s m args below meth c ls C hr hk hl hH hS => wX11_back_e hW C hr hk hH hS (lv_sub hl [0, 1] rfl) h)
set_option maxHeartbeats 4000000 in
set_option maxRecDepth 100000 in
theorem wX11_bring_e (hW : FWC ω) (C : Cx ω p s m args c cX11_bring 2 RX11) (hr : meth.sig.returnType = some .int) (hk : meth.locks = false) {rr : Int32} {μo : Mem} {x1 : Int32} {μ : Mem} {H : Heap} {locs : List Loc} {ls : Array Slot} (hH : Hd ω μ H) (hS : FS ω s H locs) (hl : lv_has ls 2 [(0, .ref (wB ω + 1)), (1, .int x1)]) (h : fX11_bring x1 μ = some (rr, μo)) : W p l e (rmd 4) s m args below meth c H locs 0 0 (MQ below (QR ω (some (.int rr)) μo) args s 0 0 (wA ω)) (F0 m 0 ls []) := by
  have hx := C.1
  have hb := C.2.1
  unfold fX11_bring at h
  refine lv_iload_n hx hb dX11_bring_0 rfl (lv_at hl 1 rfl) ?_
  refine lv_iconst (v := 1) hx hb dX11_bring_1 (by decide) ?_
  refine lv_icmp_lt (tgt := 11) hx hb dX11_bring_2 (by decide) (fun hc => ?_) (fun hc => ?_)
  · have h := ite_t hc h
    refine lv_iconst (v := (-1)) hx hb dX11_bring_11 (by decide) ?_
    exact h_iret C hr hk hH hS rfl (by cases h; rfl) dX11_bring_12
  · have h := ite_f hc h
    refine lv_iload_n hx hb dX11_bring_5 rfl (lv_at hl 1 rfl) ?_
    refine lv_bipush (v := 99) hx hb dX11_bring_6 (by decide) ?_
    refine lv_icmp_le (tgt := 13) hx hb dX11_bring_8 (by decide) (fun hc => ?_) (fun hc => ?_)
    · have h := ite_t hc h
      refine lv_aload_n hx hb dX11_bring_13 rfl (lv_at hl 0 rfl) ?_
      refine g_480 (i := 30) C hH (jC_1 hW) rfl dX11_bring_14 ?_
      refine lv_aload_n hx hb dX11_bring_17 rfl (lv_at hl 0 rfl) ?_
      refine g_477 (i := 24) C hH (jC_1 hW) rfl dX11_bring_18 ?_
      obtain ⟨μ2, e1, h⟩ := b1_e h
      refine cVv (as := [.ref (wB ω + 24)]) (rest := []) (c_X0_push hW (sC_24 hW) e1) C hl.1 hH hS rfl (jC_30 hW) rfl wd_825 wd_824 mw_X0_push wd_823 rfl (rm_ok (by decide) (by decide)) (Nat.le_of_ble_eq_true rfl) ⟨Nat.zero_le _, Nat.zero_le _⟩ (by decide) dX11_bring_21 (fun H locs hH hS => ?_)
      refine lv_aload_n hx hb dX11_bring_24 rfl (lv_at hl 0 rfl) ?_
      refine g_477 (i := 24) C hH (jC_1 hW) rfl dX11_bring_25 ?_
      refine lv_sipush (v := 9999) hx hb dX11_bring_28 (by decide) ?_
      refine lv_aload_n hx hb dX11_bring_31 rfl (lv_at hl 0 rfl) ?_
      refine g_477 (i := 24) C hH (jC_1 hW) rfl dX11_bring_32 ?_
      refine g_328 C hH (jC_24 hW) dX11_bring_35 ?_
      refine lv_iload_n hx hb dX11_bring_38 rfl (lv_at hl 1 rfl) ?_
      refine lv_iadd hx hb dX11_bring_39 ?_
      refine h_mmin C hl.1 wd_851 (rest := [.ref (wB ω + 24)]) (Nat.le_of_ble_eq_true rfl) (Nat.le_of_ble_eq_true rfl) ⟨Nat.zero_le _, Nat.zero_le _⟩ dX11_bring_40 ?_
      refine h_topi (y := jmin 9999 ((μ2.1 24 2) + x1)) rfl ?_
      obtain ⟨μ3, e4, h⟩ := bd_e h
      refine p_328 C hH hS (jC_24 hW) dX11_bring_43 (fun H locs hH hS => ?_)
      have hH := Hd.to e4 hH
      refine lv_aload_n hx hb dX11_bring_46 rfl (lv_at hl 0 rfl) ?_
      refine g_477 (i := 24) C hH (jC_1 hW) rfl dX11_bring_47 ?_
      refine g_328 C hH (jC_24 hW) dX11_bring_50 ?_
      exact h_iret C hr hk hH hS rfl (by cases h; rfl) dX11_bring_53
    · have h := ite_f hc h
      refine lv_iconst (v := (-1)) hx hb dX11_bring_11 (by decide) ?_
      exact h_iret C hr hk hH hS rfl (by cases h; rfl) dX11_bring_12
theorem c_X11_bring {l : Launch} {ω : WW} {x1 : Int32} (hW : FWC ω) {μ : Mem} {rr : Int32} {μo : Mem} (h : fX11_bring x1 μ = some (rr, μo)) : Con l yX11_bring cX11_bring 2 (some .int) 4 ω [.ref (wB ω + 1), .int x1] μ (some (.int rr)) μo :=
  con_of (by decide) (Nat.le_of_ble_eq_true rfl) (fun p e s m args below meth c ls C hr hk hl hH hS => wX11_bring_e hW C hr hk hH hS (lv_sub hl [0, 1] rfl) h)
set_option maxHeartbeats 4000000 in
set_option maxRecDepth 100000 in
theorem wX11_isHouse_e (hW : FWC ω) (C : Cx ω p s m args c cX11_isHouse 2 RX11) (hr : meth.sig.returnType = some .boolean) (hk : meth.locks = false) {rr : Int32} {μ : Mem} {x1 : Int32} {H : Heap} {locs : List Loc} {ls : Array Slot} (hH : Hd ω μ H) (hS : FS ω s H locs) (hl : lv_has ls 2 [(0, .ref (wB ω + 1)), (1, .int x1)]) (h : fX11_isHouse x1 μ = some rr) : W p l e (rmd 1) s m args below meth c H locs 0 0 (MQ below (QR ω (some (.int rr)) μ) args s 0 0 (wA ω)) (F0 m 0 ls []) := by
  have hx := C.1
  have hb := C.2.1
  unfold fX11_isHouse at h
  refine lv_iload_n hx hb dX11_isHouse_0 rfl (lv_at hl 1 rfl) ?_
  refine lv_if_lt (tgt := 19) hx hb dX11_isHouse_1 (by decide) (fun hc => ?_) (fun hc => ?_)
  · have h := ite_t hc h
    refine lv_iconst (v := 0) hx hb dX11_isHouse_19 (by decide) ?_
    exact h_zret (y := 0) C hr hk hH hS rfl (by cases h; rfl) dX11_isHouse_20
  · have h := ite_f hc h
    refine lv_iload_n hx hb dX11_isHouse_4 rfl (lv_at hl 1 rfl) ?_
    refine lv_aload_n hx hb dX11_isHouse_5 rfl (lv_at hl 0 rfl) ?_
    refine g_476 (i := 17) C hH (jC_1 hW) rfl dX11_isHouse_6 ?_
    refine g_265 C hH (jC_17 hW) dX11_isHouse_9 ?_
    refine lv_icmp_ge (tgt := 19) hx hb dX11_isHouse_12 (by decide) (fun hc => ?_) (fun hc => ?_)
    · have h := ite_t hc h
      refine lv_iconst (v := 0) hx hb dX11_isHouse_19 (by decide) ?_
      exact h_zret (y := 0) C hr hk hH hS rfl (by cases h; rfl) dX11_isHouse_20
    · have h := ite_f hc h
      refine lv_iconst (v := 1) hx hb dX11_isHouse_15 (by decide) ?_
      refine lv_goto (tgt := 20) hx hb dX11_isHouse_16 (by decide) ?_
      exact h_zret (y := 1) C hr hk hH hS rfl (by cases h; rfl) dX11_isHouse_20
theorem c_X11_isHouse {l : Launch} {ω : WW} {x1 : Int32} (hW : FWC ω) {μ : Mem} {rr : Int32} (h : fX11_isHouse x1 μ = some rr) : Con l yX11_isHouse cX11_isHouse 2 (some .boolean) 1 ω [.ref (wB ω + 1), .int x1] μ (some (.int rr)) μ :=
  con_of (by decide) (Nat.le_of_ble_eq_true rfl) (fun p e s m args below meth c ls C hr hk hl hH hS => wX11_isHouse_e hW C hr hk hH hS (lv_sub hl [0, 1] rfl) h)
set_option maxHeartbeats 4000000 in
set_option maxRecDepth 100000 in
theorem wX7_get_e {q : Nat} (hq : IsS ω q) (C : Cx ω p s m args c cX7_get 4 RX7) (hr : meth.sig.returnType = some .int) (hk : meth.locks = false) {rr : Int32} {μ : Mem} {x1 : Int32} {x2 : Int32} {H : Heap} {locs : List Loc} {ls : Array Slot} (hH : Hd ω μ H) (hS : FS ω s H locs) (hl : lv_has ls 4 [(0, .ref (wB ω + q)), (1, .int x1), (2, .int x2)]) (h : fX7_get q x1 x2 μ = some rr) : W p l e (rmd 1) s m args below meth c H locs 0 0 (MQ below (QR ω (some (.int rr)) μ) args s 0 0 (wA ω)) (F0 m 0 ls []) := by
  have hx := C.1
  have hb := C.2.1
  unfold fX7_get at h
  refine lv_iload_n hx hb dX7_get_0 rfl (lv_at hl 1 rfl) ?_
  refine lv_bipush (v := 7) hx hb dX7_get_1 (by decide) ?_
  refine lv_imul hx hb dX7_get_3 ?_
  refine lv_iload_n hx hb dX7_get_4 rfl (lv_at hl 2 rfl) ?_
  refine lv_iadd hx hb dX7_get_5 ?_
  obtain ⟨y1, e2, h⟩ := bd_e h
  refine h_topi e2 ?_
  refine lv_istore_n (lv' := [(3, .int y1), (0, .ref (wB ω + q)), (1, .int x1), (2, .int x2)]) hx hb dX7_get_6 rfl hl (by decide) rfl (fun ls hl => ?_)
  refine lv_iload_n hx hb dX7_get_7 rfl (lv_at hl 0 rfl) ?_
  refine lv_if_lt (tgt := 29) hx hb dX7_get_8 (by decide) (fun hc => ?_) (fun hc => ?_)
  · have h := ite_t hc h
    refine lv_iconst (v := 0) hx hb dX7_get_29 (by decide) ?_
    exact h_iret C hr hk hH hS rfl (by cases h; rfl) dX7_get_30
  · have h := ite_f hc h
    refine lv_iload_n hx hb dX7_get_11 rfl (lv_at hl 0 rfl) ?_
    refine lv_aload_n hx hb dX7_get_12 rfl (lv_at hl 1 rfl) ?_
    refine g_322 (i := q + 1) C hH hq.1 rfl dX7_get_13 ?_
    refine h_alen (v := 42) C hH hq.2.1 hq.2.2.1 (by decide) (by decide) (by decide) dX7_get_16 ?_
    refine lv_icmp_ge (tgt := 29) hx hb dX7_get_17 (by decide) (fun hc => ?_) (fun hc => ?_)
    · have h := ite_t hc h
      refine lv_iconst (v := 0) hx hb dX7_get_29 (by decide) ?_
      exact h_iret C hr hk hH hS rfl (by cases h; rfl) dX7_get_30
    · have h := ite_f hc h
      refine lv_aload_n hx hb dX7_get_20 rfl (lv_at hl 1 rfl) ?_
      refine g_322 (i := q + 1) C hH hq.1 rfl dX7_get_21 ?_
      refine lv_iload_n hx hb dX7_get_24 rfl (lv_at hl 0 rfl) ?_
      obtain ⟨b3, h⟩ := gd_e h
      refine h_iald C hH hq.2.1 hq.2.2.1 b3 dX7_get_25 ?_
      refine lv_goto (tgt := 30) hx hb dX7_get_26 (by decide) ?_
      exact h_iret C hr hk hH hS rfl (by cases h; rfl) dX7_get_30
theorem c_X7_get {l : Launch} {ω : WW} {q : Nat} {x1 : Int32} {x2 : Int32} (hq : IsS ω q) {μ : Mem} {rr : Int32} (h : fX7_get q x1 x2 μ = some rr) : Con l yX7_get cX7_get 4 (some .int) 1 ω [.ref (wB ω + q), .int x1, .int x2] μ (some (.int rr)) μ :=
  con_of (by decide) (Nat.le_of_ble_eq_true rfl) (fun p e s m args below meth c ls C hr hk hl hH hS => wX7_get_e hq C hr hk hH hS (lv_sub hl [0, 1, 2] rfl) h)
set_option maxHeartbeats 4000000 in
set_option maxRecDepth 100000 in
theorem wX1_joined_e (C : Cx ω p s m args c cX1_joined 3 RX1) (hr : meth.sig.returnType = some .int) (hk : meth.locks = false) {rr : Int32} {μ : Mem} {x0 : Int32} {x1 : Int32} {x2 : Int32} {H : Heap} {locs : List Loc} {ls : Array Slot} (hH : Hd ω μ H) (hS : FS ω s H locs) (hl : lv_has ls 3 [(0, .int x0), (1, .int x1), (2, .int x2)]) (h : fX1_joined x0 x1 x2 = some rr) : W p l e (rmd 1) s m args below meth c H locs 0 0 (MQ below (QR ω (some (.int rr)) μ) args s 0 0 (wA ω)) (F0 m 0 ls []) := by
  have hx := C.1
  have hb := C.2.1
  unfold fX1_joined at h
  refine lv_iload_n hx hb dX1_joined_0 rfl (lv_at hl 0 rfl) ?_
  refine lv_bipush (v := 10) hx hb dX1_joined_1 (by decide) ?_
  refine lv_icmp_ne (tgt := 10) hx hb dX1_joined_3 (by decide) (fun hc => ?_) (fun hc => ?_)
  · have h := ite_f hc h
    refine lv_iload_n hx hb dX1_joined_10 rfl (lv_at hl 0 rfl) ?_
    refine lv_bipush (v := 11) hx hb dX1_joined_11 (by decide) ?_
    refine lv_icmp_ne (tgt := 20) hx hb dX1_joined_13 (by decide) (fun hc => ?_) (fun hc => ?_)
    · have h := ite_f hc h
      refine lv_iload_n hx hb dX1_joined_20 rfl (lv_at hl 0 rfl) ?_
      refine lv_bipush (v := 12) hx hb dX1_joined_21 (by decide) ?_
      refine lv_icmp_ne (tgt := 30) hx hb dX1_joined_23 (by decide) (fun hc => ?_) (fun hc => ?_)
      · have h := ite_f hc h
        refine lv_iload_n hx hb dX1_joined_30 rfl (lv_at hl 2 rfl) ?_
        refine lv_if_ne (tgt := 38) hx hb dX1_joined_31 (by decide) (fun hc => ?_) (fun hc => ?_)
        · have h := ite_f hc h
          refine lv_iload_n hx hb dX1_joined_38 rfl (lv_at hl 1 rfl) ?_
          refine lv_iload_n hx hb dX1_joined_39 rfl (lv_at hl 2 rfl) ?_
          obtain ⟨b1, h⟩ := gd_e h
          refine lv_idiv hx hb dX1_joined_40 (dz_e b1) ?_
          exact h_iret C hr hk hH hS rfl (by cases h; rfl) dX1_joined_41
        · have h := ite_t hc h
          refine lv_iconst (v := 0) hx hb dX1_joined_34 (by decide) ?_
          refine lv_goto (tgt := 41) hx hb dX1_joined_35 (by decide) ?_
          exact h_iret C hr hk hH hS rfl (by cases h; rfl) dX1_joined_41
      · have h := ite_t hc h
        refine lv_iload_n hx hb dX1_joined_26 rfl (lv_at hl 1 rfl) ?_
        refine lv_iload_n hx hb dX1_joined_27 rfl (lv_at hl 2 rfl) ?_
        refine lv_imul hx hb dX1_joined_28 ?_
        exact h_iret C hr hk hH hS rfl (by cases h; rfl) dX1_joined_29
    · have h := ite_t hc h
      refine lv_iload_n hx hb dX1_joined_16 rfl (lv_at hl 1 rfl) ?_
      refine lv_iload_n hx hb dX1_joined_17 rfl (lv_at hl 2 rfl) ?_
      refine lv_isub hx hb dX1_joined_18 ?_
      exact h_iret C hr hk hH hS rfl (by cases h; rfl) dX1_joined_19
  · have h := ite_t hc h
    refine lv_iload_n hx hb dX1_joined_6 rfl (lv_at hl 1 rfl) ?_
    refine lv_iload_n hx hb dX1_joined_7 rfl (lv_at hl 2 rfl) ?_
    refine lv_iadd hx hb dX1_joined_8 ?_
    exact h_iret C hr hk hH hS rfl (by cases h; rfl) dX1_joined_9
theorem c_X1_joined {l : Launch} {ω : WW} {x0 : Int32} {x1 : Int32} {x2 : Int32} {μ : Mem} {rr : Int32} (h : fX1_joined x0 x1 x2 = some rr) : Con l yX1_joined cX1_joined 3 (some .int) 1 ω [.int x0, .int x1, .int x2] μ (some (.int rr)) μ :=
  con_of (by decide) (Nat.le_of_ble_eq_true rfl) (fun p e s m args below meth c ls C hr hk hl hH hS => wX1_joined_e C hr hk hH hS (lv_sub hl [0, 1, 2] rfl) h)
set_option maxHeartbeats 4000000 in
set_option maxRecDepth 100000 in
theorem wX1_valueOf_b240 {q : Nat} {q2 : Nat} (hq : IsL ω q) (hq2 : IsS ω q2) (C : Cx ω p s m args c cX1_valueOf 10 RX1) (hr : meth.sig.returnType = some .int) (hk : meth.locks = false) {rr : Int32} {μo : Mem} {x3 : Int32} {x4 : Int32} {x6 : Int32} {x7 : Int32} {x8 : Int32} {x9 : Int32} {rec : Int32 → Int32 → Mem → Option (Int32 × Mem)} (hrec : ∀ (z4 : Int32) (z6 : Int32) (ν : Mem) (H : Heap) (locs : List Loc) (ls : Array Slot), Hd ω ν H → FS ω s H locs → lv_has ls 10 [(0, .ref (wB ω + q)), (2, .ref (wB ω + q2)), (3, .int x3), (4, .int z4), (6, .int z6)] → rec z4 z6 ν = some (rr, μo) → W p l e (rmd 2) s m args below meth c H locs 0 0 (MQ below (QR ω (some (.int rr)) μo) args s 0 0 (wA ω)) (F0 m 31 ls [])) {K : Int32 → Mem → Option (Int32 × Mem)} (hK : ∀ (z4 : Int32) (ν : Mem) (H : Heap) (locs : List Loc) (ls : Array Slot), Hd ω ν H → FS ω s H locs → lv_has ls 10 [(0, .ref (wB ω + q)), (4, .int z4)] → K z4 ν = some (rr, μo) → W p l e (rmd 2) s m args below meth c H locs 0 0 (MQ below (QR ω (some (.int rr)) μo) args s 0 0 (wA ω)) (F0 m 138 ls [])) {μ : Mem} {H : Heap} {locs : List Loc} {ls : Array Slot} (hH : Hd ω μ H) (hS : FS ω s H locs) (hl : lv_has ls 10 [(0, .ref (wB ω + q)), (2, .ref (wB ω + q2)), (3, .int x3), (4, .int x4), (6, .int x6), (7, .int x7), (8, .int x8), (9, .int x9)]) (h : fX1_valueOf_b240 rec K q q2 x3 x4 x6 x7 x8 x9 μ = some (rr, μo)) : W p l e (rmd 2) s m args below meth c H locs 0 0 (MQ below (QR ω (some (.int rr)) μo) args s 0 0 (wA ω)) (F0 m 240 ls []) := by
  have hx := C.1
  have hb := C.2.1
  unfold fX1_valueOf_b240 at h
  refine lv_aload_n hx hb dX1_valueOf_240 rfl (lv_at hl 0 rfl) ?_
  refine g_238 (i := q + 4) C hH hq.1 rfl dX1_valueOf_241 ?_
  refine lv_iload hx hb dX1_valueOf_244 (lv_at hl 3 rfl) ?_
  refine lv_iload hx hb dX1_valueOf_246 (lv_at hl 5 rfl) ?_
  refine lv_iload hx hb dX1_valueOf_248 (lv_at hl 6 rfl) ?_
  refine lv_iload hx hb dX1_valueOf_250 (lv_at hl 7 rfl) ?_
  obtain ⟨r11, e10, h⟩ := b1_e h
  refine cSi (as := [.int x7, .int x8, .int x9]) (rest := [.int x4, .ref (wB ω + (q + 4))]) (c_X1_joined e10) C hl.1 hH hS rfl wd_758 mw_X1_joined wd_757 rfl (rm_ok (by decide) (by decide)) (Nat.le_of_ble_eq_true rfl) ⟨Nat.zero_le _, Nat.zero_le _⟩ dX1_valueOf_252 (fun H locs hH hS => ?_)
  obtain ⟨b12, h⟩ := gd_e h
  obtain ⟨μ13, e14, h⟩ := bd_e h
  refine h_iast C hH hS hq.2.2.2.2.1 hq.2.2.2.2.2.1 b12 dX1_valueOf_255 (fun H locs hH hS => ?_)
  have hH := Hd.to e14 hH
  refine lv_iinc (v := x4 + 1) (lv' := [(4, .int (x4 + 1)), (0, .ref (wB ω + q)), (2, .ref (wB ω + q2)), (3, .int x3), (6, .int x6), (7, .int x7), (8, .int x8), (9, .int x9)]) hx hb dX1_valueOf_256 hl (k := 3) rfl rfl (by decide) rfl (fun ls hl => ?_)
  refine lv_iinc (v := x6 + 1) (lv' := [(6, .int (x6 + 1)), (4, .int (x4 + 1)), (0, .ref (wB ω + q)), (2, .ref (wB ω + q2)), (3, .int x3), (7, .int x7), (8, .int x8), (9, .int x9)]) hx hb dX1_valueOf_259 hl (k := 4) rfl rfl (by decide) rfl (fun ls hl => ?_)
  refine lv_goto (tgt := 31) hx hb dX1_valueOf_262 (by decide) ?_
  exact hrec _ _ _ H locs ls hH hS (lv_sub hl [2, 3, 4, 1, 0] rfl) h
set_option maxHeartbeats 4000000 in
set_option maxRecDepth 100000 in
theorem wX1_valueOf_b97 {q : Nat} {q2 : Nat} (hq : IsL ω q) (hq2 : IsS ω q2) (C : Cx ω p s m args c cX1_valueOf 10 RX1) (hr : meth.sig.returnType = some .int) (hk : meth.locks = false) {rr : Int32} {μo : Mem} {x3 : Int32} {x4 : Int32} {x6 : Int32} {x7 : Int32} {rec : Int32 → Int32 → Mem → Option (Int32 × Mem)} (hrec : ∀ (z4 : Int32) (z6 : Int32) (ν : Mem) (H : Heap) (locs : List Loc) (ls : Array Slot), Hd ω ν H → FS ω s H locs → lv_has ls 10 [(0, .ref (wB ω + q)), (2, .ref (wB ω + q2)), (3, .int x3), (4, .int z4), (6, .int z6)] → rec z4 z6 ν = some (rr, μo) → W p l e (rmd 2) s m args below meth c H locs 0 0 (MQ below (QR ω (some (.int rr)) μo) args s 0 0 (wA ω)) (F0 m 31 ls [])) {K : Int32 → Mem → Option (Int32 × Mem)} (hK : ∀ (z4 : Int32) (ν : Mem) (H : Heap) (locs : List Loc) (ls : Array Slot), Hd ω ν H → FS ω s H locs → lv_has ls 10 [(0, .ref (wB ω + q)), (4, .int z4)] → K z4 ν = some (rr, μo) → W p l e (rmd 2) s m args below meth c H locs 0 0 (MQ below (QR ω (some (.int rr)) μo) args s 0 0 (wA ω)) (F0 m 138 ls [])) {k0 : Int32} {μ : Mem} {H : Heap} {locs : List Loc} {ls : Array Slot} (hH : Hd ω μ H) (hS : FS ω s H locs) (hl : lv_has ls 10 [(0, .ref (wB ω + q)), (2, .ref (wB ω + q2)), (3, .int x3), (4, .int x4), (6, .int x6), (7, .int x7)]) (h : fX1_valueOf_b97 rec K q q2 x3 x4 x6 x7 k0 μ = some (rr, μo)) : W p l e (rmd 2) s m args below meth c H locs 0 0 (MQ below (QR ω (some (.int rr)) μo) args s 0 0 (wA ω)) (F0 m 97 ls [.int k0]) := by
  have hx := C.1
  have hb := C.2.1
  unfold fX1_valueOf_b97 at h
  refine lv_istore (lv' := [(8, .int k0), (0, .ref (wB ω + q)), (2, .ref (wB ω + q2)), (3, .int x3), (4, .int x4), (6, .int x6), (7, .int x7)]) hx hb dX1_valueOf_97 hl (by decide) rfl (fun ls hl => ?_)
  refine lv_aload_n hx hb dX1_valueOf_99 rfl (lv_at hl 1 rfl) ?_
  refine g_238 (i := q + 4) C hH hq.1 rfl dX1_valueOf_100 ?_
  refine lv_iload hx hb dX1_valueOf_103 (lv_at hl 4 rfl) ?_
  refine lv_iload hx hb dX1_valueOf_105 (lv_at hl 6 rfl) ?_
  refine lv_bipush (v := 7) hx hb dX1_valueOf_107 (by decide) ?_
  refine lv_icmp_ge (tgt := 122) hx hb dX1_valueOf_109 (by decide) (fun hc => ?_) (fun hc => ?_)
  · have h := ite_t hc h
    refine lv_iload hx hb dX1_valueOf_122 (lv_at hl 0 rfl) ?_
    obtain ⟨b19, h⟩ := gd_e h
    obtain ⟨μ20, e21, h⟩ := bd_e h
    refine h_iast C hH hS hq.2.2.2.2.1 hq.2.2.2.2.2.1 b19 dX1_valueOf_124 (fun H locs hH hS => ?_)
    have hH := Hd.to e21 hH
    refine lv_iinc (v := x4 + 1) (lv' := [(4, .int (x4 + 1)), (8, .int k0), (0, .ref (wB ω + q)), (2, .ref (wB ω + q2)), (3, .int x3), (6, .int x6), (7, .int x7)]) hx hb dX1_valueOf_125 hl (k := 4) rfl rfl (by decide) rfl (fun ls hl => ?_)
    refine lv_goto (tgt := 259) hx hb dX1_valueOf_128 (by decide) ?_
    refine lv_iinc (v := x6 + 1) (lv' := [(6, .int (x6 + 1)), (4, .int (x4 + 1)), (8, .int k0), (0, .ref (wB ω + q)), (2, .ref (wB ω + q2)), (3, .int x3), (7, .int x7)]) hx hb dX1_valueOf_259 hl (k := 5) rfl rfl (by decide) rfl (fun ls hl => ?_)
    refine lv_goto (tgt := 31) hx hb dX1_valueOf_262 (by decide) ?_
    exact hrec _ _ _ H locs ls hH hS (lv_sub hl [3, 4, 5, 1, 0] rfl) h
  · have h := ite_f hc h
    refine lv_aload_n hx hb dX1_valueOf_112 rfl (lv_at hl 2 rfl) ?_
    refine lv_iload_n hx hb dX1_valueOf_113 rfl (lv_at hl 3 rfl) ?_
    refine lv_iload hx hb dX1_valueOf_114 (lv_at hl 6 rfl) ?_
    obtain ⟨r23, e22, h⟩ := b1_e h
    refine cVi (as := [.int x3, .int x7]) (rest := [.int x4, .ref (wB ω + (q + 4))]) (c_X7_get hq2 e22) C hl.1 hH hS rfl hq2.1 rfl wd_745 wd_744 mw_X7_get wd_755 rfl (rm_ok (by decide) (by decide)) (Nat.le_of_ble_eq_true rfl) ⟨Nat.zero_le _, Nat.zero_le _⟩ (by decide) dX1_valueOf_116 (fun H locs hH hS => ?_)
    refine lv_goto (tgt := 124) hx hb dX1_valueOf_119 (by decide) ?_
    obtain ⟨b24, h⟩ := gd_e h
    obtain ⟨μ25, e26, h⟩ := bd_e h
    refine h_iast C hH hS hq.2.2.2.2.1 hq.2.2.2.2.2.1 b24 dX1_valueOf_124 (fun H locs hH hS => ?_)
    have hH := Hd.to e26 hH
    refine lv_iinc (v := x4 + 1) (lv' := [(4, .int (x4 + 1)), (8, .int k0), (0, .ref (wB ω + q)), (2, .ref (wB ω + q2)), (3, .int x3), (6, .int x6), (7, .int x7)]) hx hb dX1_valueOf_125 hl (k := 4) rfl rfl (by decide) rfl (fun ls hl => ?_)
    refine lv_goto (tgt := 259) hx hb dX1_valueOf_128 (by decide) ?_
    refine lv_iinc (v := x6 + 1) (lv' := [(6, .int (x6 + 1)), (4, .int (x4 + 1)), (8, .int k0), (0, .ref (wB ω + q)), (2, .ref (wB ω + q2)), (3, .int x3), (7, .int x7)]) hx hb dX1_valueOf_259 hl (k := 5) rfl rfl (by decide) rfl (fun ls hl => ?_)
    refine lv_goto (tgt := 31) hx hb dX1_valueOf_262 (by decide) ?_
    exact hrec _ _ _ H locs ls hH hS (lv_sub hl [3, 4, 5, 1, 0] rfl) h
set_option maxHeartbeats 4000000 in
set_option maxRecDepth 100000 in
theorem wX1_valueOf_s31 {q : Nat} {q2 : Nat} (hq : IsL ω q) (hq2 : IsS ω q2) (C : Cx ω p s m args c cX1_valueOf 10 RX1) (hr : meth.sig.returnType = some .int) (hk : meth.locks = false) {rr : Int32} {μo : Mem} {x3 : Int32} {x4 : Int32} {x6 : Int32} {rec : Int32 → Int32 → Mem → Option (Int32 × Mem)} (hrec : ∀ (z4 : Int32) (z6 : Int32) (ν : Mem) (H : Heap) (locs : List Loc) (ls : Array Slot), Hd ω ν H → FS ω s H locs → lv_has ls 10 [(0, .ref (wB ω + q)), (2, .ref (wB ω + q2)), (3, .int x3), (4, .int z4), (6, .int z6)] → rec z4 z6 ν = some (rr, μo) → W p l e (rmd 2) s m args below meth c H locs 0 0 (MQ below (QR ω (some (.int rr)) μo) args s 0 0 (wA ω)) (F0 m 31 ls [])) {K : Int32 → Mem → Option (Int32 × Mem)} (hK : ∀ (z4 : Int32) (ν : Mem) (H : Heap) (locs : List Loc) (ls : Array Slot), Hd ω ν H → FS ω s H locs → lv_has ls 10 [(0, .ref (wB ω + q)), (4, .int z4)] → K z4 ν = some (rr, μo) → W p l e (rmd 2) s m args below meth c H locs 0 0 (MQ below (QR ω (some (.int rr)) μo) args s 0 0 (wA ω)) (F0 m 138 ls [])) {μ : Mem} {H : Heap} {locs : List Loc} {ls : Array Slot} (hH : Hd ω μ H) (hS : FS ω s H locs) (hl : lv_has ls 10 [(0, .ref (wB ω + q)), (2, .ref (wB ω + q2)), (3, .int x3), (4, .int x4), (6, .int x6)]) (h : fX1_valueOf_s31 rec K q q2 x3 x4 x6 μ = some (rr, μo)) : W p l e (rmd 2) s m args below meth c H locs 0 0 (MQ below (QR ω (some (.int rr)) μo) args s 0 0 (wA ω)) (F0 m 31 ls []) := by
  have hx := C.1
  have hb := C.2.1
  unfold fX1_valueOf_s31 at h
  refine lv_iload hx hb dX1_valueOf_31 (lv_at hl 4 rfl) ?_
  refine lv_aload_n hx hb dX1_valueOf_33 rfl (lv_at hl 0 rfl) ?_
  refine g_239 C hH hq.1 dX1_valueOf_34 ?_
  refine lv_icmp_ge (tgt := 265) hx hb dX1_valueOf_37 (by decide) (fun hc => ?_) (fun hc => ?_)
  · have h := ite_t hc h
    refine lv_iconst (v := 0) hx hb dX1_valueOf_265 (by decide) ?_
    exact h_iret C hr hk hH hS rfl (by cases h; rfl) dX1_valueOf_266
  · have h := ite_f hc h
    refine lv_aload_n hx hb dX1_valueOf_40 rfl (lv_at hl 0 rfl) ?_
    refine g_235 (i := q + 1) C hH hq.1 rfl dX1_valueOf_41 ?_
    refine lv_iload hx hb dX1_valueOf_44 (lv_at hl 4 rfl) ?_
    obtain ⟨b1, h⟩ := gd_e h
    refine h_iald C hH hq.2.1.1 hq.2.1.2.1 b1 dX1_valueOf_46 ?_
    obtain ⟨y2, e3, h⟩ := bd_e h
    refine h_topi e3 ?_
    refine lv_istore (lv' := [(7, .int y2), (0, .ref (wB ω + q)), (2, .ref (wB ω + q2)), (3, .int x3), (4, .int x4), (6, .int x6)]) hx hb dX1_valueOf_47 hl (by decide) rfl (fun ls hl => ?_)
    refine lv_iload hx hb dX1_valueOf_49 (lv_at hl 0 rfl) ?_
    refine lv_bipush (v := 9) hx hb dX1_valueOf_51 (by decide) ?_
    refine lv_icmp_gt (tgt := 131) hx hb dX1_valueOf_53 (by decide) (fun hc => ?_) (fun hc => ?_)
    · have h := ite_t hc h
      refine lv_iload hx hb dX1_valueOf_131 (lv_at hl 0 rfl) ?_
      refine lv_bipush (v := 15) hx hb dX1_valueOf_133 (by decide) ?_
      refine lv_icmp_ne (tgt := 157) hx hb dX1_valueOf_135 (by decide) (fun hc => ?_) (fun hc => ?_)
      · have h := ite_f hc h
        refine lv_iload hx hb dX1_valueOf_157 (lv_at hl 4 rfl) ?_
        refine lv_iconst (v := 2) hx hb dX1_valueOf_159 (by decide) ?_
        refine lv_icmp_ge (tgt := 165) hx hb dX1_valueOf_160 (by decide) (fun hc => ?_) (fun hc => ?_)
        · have h := ite_t hc h
          refine lv_iinc (v := x4 + (-2)) (lv' := [(4, .int (x4 + (-2))), (7, .int y2), (0, .ref (wB ω + q)), (2, .ref (wB ω + q2)), (3, .int x3), (6, .int x6)]) hx hb dX1_valueOf_165 hl (k := 4) rfl rfl (by decide) rfl (fun ls hl => ?_)
          refine lv_aload_n hx hb dX1_valueOf_168 rfl (lv_at hl 2 rfl) ?_
          refine g_238 (i := q + 4) C hH hq.1 rfl dX1_valueOf_169 ?_
          refine lv_iload hx hb dX1_valueOf_172 (lv_at hl 0 rfl) ?_
          obtain ⟨b4, h⟩ := gd_e h
          refine h_iald C hH hq.2.2.2.2.1 hq.2.2.2.2.2.1 b4 dX1_valueOf_174 ?_
          obtain ⟨y5, e6, h⟩ := bd_e h
          refine h_topi e6 ?_
          refine lv_istore (lv' := [(8, .int y5), (4, .int (x4 + (-2))), (7, .int y2), (0, .ref (wB ω + q)), (2, .ref (wB ω + q2)), (3, .int x3), (6, .int x6)]) hx hb dX1_valueOf_175 hl (by decide) rfl (fun ls hl => ?_)
          refine lv_aload_n hx hb dX1_valueOf_177 rfl (lv_at hl 3 rfl) ?_
          refine g_238 (i := q + 4) C hH hq.1 rfl dX1_valueOf_178 ?_
          refine lv_iload hx hb dX1_valueOf_181 (lv_at hl 1 rfl) ?_
          refine lv_iconst (v := 1) hx hb dX1_valueOf_183 (by decide) ?_
          refine lv_iadd hx hb dX1_valueOf_184 ?_
          obtain ⟨b7, h⟩ := gd_e h
          refine h_iald C hH hq.2.2.2.2.1 hq.2.2.2.2.2.1 b7 dX1_valueOf_185 ?_
          obtain ⟨y8, e9, h⟩ := bd_e h
          refine h_topi e9 ?_
          refine lv_istore (lv' := [(9, .int y8), (8, .int y5), (4, .int (x4 + (-2))), (7, .int y2), (0, .ref (wB ω + q)), (2, .ref (wB ω + q2)), (3, .int x3), (6, .int x6)]) hx hb dX1_valueOf_186 hl (by decide) rfl (fun ls hl => ?_)
          refine lv_iload hx hb dX1_valueOf_188 (lv_at hl 3 rfl) ?_
          refine lv_bipush (v := 14) hx hb dX1_valueOf_190 (by decide) ?_
          refine lv_icmp_ne (tgt := 226) hx hb dX1_valueOf_192 (by decide) (fun hc => ?_) (fun hc => ?_)
          · have h := ite_f hc h
            refine lv_iload hx hb dX1_valueOf_226 (lv_at hl 3 rfl) ?_
            refine lv_bipush (v := 13) hx hb dX1_valueOf_228 (by decide) ?_
            refine lv_icmp_ne (tgt := 240) hx hb dX1_valueOf_230 (by decide) (fun hc => ?_) (fun hc => ?_)
            · have h := ite_f hc h
              exact wX1_valueOf_b240 hq hq2 C hr hk hrec hK hH hS (lv_sub hl [4, 5, 6, 2, 7, 3, 1, 0] rfl) h
            · have h := ite_t hc h
              refine lv_iload hx hb dX1_valueOf_233 (lv_at hl 0 rfl) ?_
              refine lv_if_ne (tgt := 240) hx hb dX1_valueOf_235 (by decide) (fun hc => ?_) (fun hc => ?_)
              · have h := ite_f hc h
                exact wX1_valueOf_b240 hq hq2 C hr hk hrec hK hH hS (lv_sub hl [4, 5, 6, 2, 7, 3, 1, 0] rfl) h
              · have h := ite_t hc h
                refine lv_iconst (v := 0) hx hb dX1_valueOf_238 (by decide) ?_
                exact h_iret C hr hk hH hS rfl (by cases h; rfl) dX1_valueOf_239
          · have h := ite_t hc h
            refine lv_iload hx hb dX1_valueOf_195 (lv_at hl 1 rfl) ?_
            refine lv_iload hx hb dX1_valueOf_197 (lv_at hl 0 rfl) ?_
            refine lv_icmp_ge (tgt := 207) hx hb dX1_valueOf_199 (by decide) (fun hc => ?_) (fun hc => ?_)
            · have h := ite_t hc h
              refine lv_iload hx hb dX1_valueOf_207 (lv_at hl 7 rfl) ?_
              refine lv_aload_n hx hb dX1_valueOf_209 rfl (lv_at hl 4 rfl) ?_
              refine g_236 (i := q + 2) C hH hq.1 rfl dX1_valueOf_210 ?_
              refine lv_iload hx hb dX1_valueOf_213 (lv_at hl 7 rfl) ?_
              obtain ⟨b15, h⟩ := gd_e h
              refine h_iald C hH hq.2.2.1.1 hq.2.2.1.2.1 b15 dX1_valueOf_215 ?_
              refine lv_iconst (v := 1) hx hb dX1_valueOf_216 (by decide) ?_
              refine lv_isub hx hb dX1_valueOf_217 ?_
              refine h_mmax C hl.1 wd_756 (rest := []) (Nat.le_of_ble_eq_true rfl) (Nat.le_of_ble_eq_true rfl) ⟨Nat.zero_le _, Nat.zero_le _⟩ dX1_valueOf_218 ?_
              refine h_topi (y := jmax x6 ((μ.1 (q + 2) x6.toNatClampNeg) - 1)) rfl ?_
              obtain ⟨y16, e17, h⟩ := bd_e h
              refine h_topi e17 ?_
              refine lv_istore (lv' := [(6, .int y16), (9, .int y8), (8, .int y5), (4, .int (x4 + (-2))), (7, .int y2), (0, .ref (wB ω + q)), (2, .ref (wB ω + q2)), (3, .int x3)]) hx hb dX1_valueOf_221 hl (by decide) rfl (fun ls hl => ?_)
              refine lv_goto (tgt := 259) hx hb dX1_valueOf_223 (by decide) ?_
              refine lv_iinc (v := y16 + 1) (lv' := [(6, .int (y16 + 1)), (9, .int y8), (8, .int y5), (4, .int (x4 + (-2))), (7, .int y2), (0, .ref (wB ω + q)), (2, .ref (wB ω + q2)), (3, .int x3)]) hx hb dX1_valueOf_259 hl (k := 0) rfl rfl (by decide) rfl (fun ls hl => ?_)
              refine lv_goto (tgt := 31) hx hb dX1_valueOf_262 (by decide) ?_
              exact hrec _ _ _ H locs ls hH hS (lv_sub hl [5, 6, 7, 3, 0] rfl) h
            · have h := ite_f hc h
              refine lv_iload hx hb dX1_valueOf_202 (lv_at hl 7 rfl) ?_
              refine lv_goto (tgt := 221) hx hb dX1_valueOf_204 (by decide) ?_
              refine lv_istore (lv' := [(6, .int x6), (9, .int y8), (8, .int y5), (4, .int (x4 + (-2))), (7, .int y2), (0, .ref (wB ω + q)), (2, .ref (wB ω + q2)), (3, .int x3)]) hx hb dX1_valueOf_221 hl (by decide) rfl (fun ls hl => ?_)
              refine lv_goto (tgt := 259) hx hb dX1_valueOf_223 (by decide) ?_
              refine lv_iinc (v := x6 + 1) (lv' := [(6, .int (x6 + 1)), (9, .int y8), (8, .int y5), (4, .int (x4 + (-2))), (7, .int y2), (0, .ref (wB ω + q)), (2, .ref (wB ω + q2)), (3, .int x3)]) hx hb dX1_valueOf_259 hl (k := 0) rfl rfl (by decide) rfl (fun ls hl => ?_)
              refine lv_goto (tgt := 31) hx hb dX1_valueOf_262 (by decide) ?_
              exact hrec _ _ _ H locs ls hH hS (lv_sub hl [5, 6, 7, 3, 0] rfl) h
        · have h := ite_f hc h
          refine lv_iconst (v := 0) hx hb dX1_valueOf_163 (by decide) ?_
          exact h_iret C hr hk hH hS rfl (by cases h; rfl) dX1_valueOf_164
      · have h := ite_t hc h
        exact hK _ _ H locs ls hH hS (lv_sub hl [1, 4] rfl) h
    · have h := ite_f hc h
      refine lv_iload hx hb dX1_valueOf_56 (lv_at hl 4 rfl) ?_
      refine lv_bipush (v := 32) hx hb dX1_valueOf_58 (by decide) ?_
      refine lv_icmp_lt (tgt := 65) hx hb dX1_valueOf_60 (by decide) (fun hc => ?_) (fun hc => ?_)
      · have h := ite_t hc h
        refine lv_iload hx hb dX1_valueOf_65 (lv_at hl 0 rfl) ?_
        refine lv_bipush (v := 7) hx hb dX1_valueOf_67 (by decide) ?_
        refine lv_icmp_ne (tgt := 79) hx hb dX1_valueOf_69 (by decide) (fun hc => ?_) (fun hc => ?_)
        · have h := ite_f hc h
          refine lv_iload hx hb dX1_valueOf_79 (lv_at hl 0 rfl) ?_
          refine lv_bipush (v := 8) hx hb dX1_valueOf_81 (by decide) ?_
          refine lv_icmp_ne (tgt := 90) hx hb dX1_valueOf_83 (by decide) (fun hc => ?_) (fun hc => ?_)
          · have h := ite_f hc h
            refine lv_aload_n hx hb dX1_valueOf_90 rfl (lv_at hl 1 rfl) ?_
            refine g_236 (i := q + 2) C hH hq.1 rfl dX1_valueOf_91 ?_
            refine lv_iload hx hb dX1_valueOf_94 (lv_at hl 5 rfl) ?_
            obtain ⟨b18, h⟩ := gd_e h
            refine h_iald C hH hq.2.2.1.1 hq.2.2.1.2.1 b18 dX1_valueOf_96 ?_
            exact wX1_valueOf_b97 hq hq2 C hr hk hrec hK hH hS (lv_sub hl [1, 2, 3, 4, 5, 0] rfl) h
          · have h := ite_t hc h
            refine lv_iload_n hx hb dX1_valueOf_86 rfl (lv_at hl 3 rfl) ?_
            refine lv_goto (tgt := 97) hx hb dX1_valueOf_87 (by decide) ?_
            exact wX1_valueOf_b97 hq hq2 C hr hk hrec hK hH hS (lv_sub hl [1, 2, 3, 4, 5, 0] rfl) h
        · have h := ite_t hc h
          refine lv_aload_n hx hb dX1_valueOf_72 rfl (lv_at hl 2 rfl) ?_
          refine g_326 C hH hq2.1 dX1_valueOf_73 ?_
          refine lv_goto (tgt := 97) hx hb dX1_valueOf_76 (by decide) ?_
          exact wX1_valueOf_b97 hq hq2 C hr hk hrec hK hH hS (lv_sub hl [1, 2, 3, 4, 5, 0] rfl) h
      · have h := ite_f hc h
        refine lv_iconst (v := 0) hx hb dX1_valueOf_63 (by decide) ?_
        exact h_iret C hr hk hH hS rfl (by cases h; rfl) dX1_valueOf_64
theorem wX1_valueOf_l31 {q : Nat} {q2 : Nat} (hq : IsL ω q) (hq2 : IsS ω q2) (C : Cx ω p s m args c cX1_valueOf 10 RX1) (hr : meth.sig.returnType = some .int) (hk : meth.locks = false) {rr : Int32} {μo : Mem} {x3 : Int32} {K : Int32 → Mem → Option (Int32 × Mem)} (hK : ∀ (z4 : Int32) (ν : Mem) (H : Heap) (locs : List Loc) (ls : Array Slot), Hd ω ν H → FS ω s H locs → lv_has ls 10 [(0, .ref (wB ω + q)), (4, .int z4)] → K z4 ν = some (rr, μo) → W p l e (rmd 2) s m args below meth c H locs 0 0 (MQ below (QR ω (some (.int rr)) μo) args s 0 0 (wA ω)) (F0 m 138 ls [])) : ∀ (n : Nat) (x4 : Int32) (x6 : Int32) (μ : Mem) (H : Heap) (locs : List Loc) (ls : Array Slot), Hd ω μ H → FS ω s H locs → lv_has ls 10 [(0, .ref (wB ω + q)), (2, .ref (wB ω + q2)), (3, .int x3), (4, .int x4), (6, .int x6)] → fX1_valueOf_l31 K q q2 x3 n x4 x6 μ = some (rr, μo) → W p l e (rmd 2) s m args below meth c H locs 0 0 (MQ below (QR ω (some (.int rr)) μo) args s 0 0 (wA ω)) (F0 m 31 ls []) := by
  intro n
  induction n with
  | zero => intro x4 x6 μ H locs ls hH hS hl h; cases h
  | succ n ih => intro x4 x6 μ H locs ls hH hS hl h; exact wX1_valueOf_s31 hq hq2 C hr hk ih hK hH hS hl h
set_option maxHeartbeats 4000000 in
set_option maxRecDepth 100000 in
theorem wX1_valueOf_b25 {q : Nat} {q2 : Nat} (hq : IsL ω q) (hq2 : IsS ω q2) (C : Cx ω p s m args c cX1_valueOf 10 RX1) (hr : meth.sig.returnType = some .int) (hk : meth.locks = false) {rr : Int32} {μo : Mem} {x3 : Int32} {x4 : Int32} {k0 : Int32} {μ : Mem} {H : Heap} {locs : List Loc} {ls : Array Slot} (hH : Hd ω μ H) (hS : FS ω s H locs) (hl : lv_has ls 10 [(0, .ref (wB ω + q)), (2, .ref (wB ω + q2)), (3, .int x3), (4, .int x4)]) (h : fX1_valueOf_b25 q q2 x3 x4 k0 μ = some (rr, μo)) : W p l e (rmd 2) s m args below meth c H locs 0 0 (MQ below (QR ω (some (.int rr)) μo) args s 0 0 (wA ω)) (F0 m 25 ls [.int k0]) := by
  have hx := C.1
  have hb := C.2.1
  unfold fX1_valueOf_b25 at h
  refine lv_istore (lv' := [(5, .int k0), (0, .ref (wB ω + q)), (2, .ref (wB ω + q2)), (3, .int x3), (4, .int x4)]) hx hb dX1_valueOf_25 hl (by decide) rfl (fun ls hl => ?_)
  refine lv_iload hx hb dX1_valueOf_27 (lv_at hl 0 rfl) ?_
  refine lv_istore (lv' := [(6, .int k0), (5, .int k0), (0, .ref (wB ω + q)), (2, .ref (wB ω + q2)), (3, .int x3), (4, .int x4)]) hx hb dX1_valueOf_29 hl (by decide) rfl (fun ls hl => ?_)
  refine wX1_valueOf_l31 hq hq2 C hr hk (fun y27 μ28 H locs ls hH hS hl h => ?_) FU _ _ _ H locs ls hH hS (lv_sub hl [2, 3, 4, 5, 0] rfl) h
  refine lv_iload hx hb dX1_valueOf_138 (lv_at hl 1 rfl) ?_
  refine lv_if_le (tgt := 155) hx hb dX1_valueOf_140 (by decide) (fun hc => ?_) (fun hc => ?_)
  · have h := ite_t hc h
    refine lv_iconst (v := 0) hx hb dX1_valueOf_155 (by decide) ?_
    exact h_iret C hr hk hH hS rfl (by cases h; rfl) dX1_valueOf_156
  · have h := ite_f hc h
    refine lv_aload_n hx hb dX1_valueOf_143 rfl (lv_at hl 0 rfl) ?_
    refine g_238 (i := q + 4) C hH hq.1 rfl dX1_valueOf_144 ?_
    refine lv_iload hx hb dX1_valueOf_147 (lv_at hl 1 rfl) ?_
    refine lv_iconst (v := 1) hx hb dX1_valueOf_149 (by decide) ?_
    refine lv_isub hx hb dX1_valueOf_150 ?_
    obtain ⟨b29, h⟩ := gd_e h
    refine h_iald C hH hq.2.2.2.2.1 hq.2.2.2.2.2.1 b29 dX1_valueOf_151 ?_
    refine lv_goto (tgt := 156) hx hb dX1_valueOf_152 (by decide) ?_
    exact h_iret C hr hk hH hS rfl (by cases h; rfl) dX1_valueOf_156
set_option maxHeartbeats 4000000 in
set_option maxRecDepth 100000 in
theorem wX1_valueOf_b21 {q : Nat} {q2 : Nat} (hq : IsL ω q) (hq2 : IsS ω q2) (C : Cx ω p s m args c cX1_valueOf 10 RX1) (hr : meth.sig.returnType = some .int) (hk : meth.locks = false) {rr : Int32} {μo : Mem} {x3 : Int32} {x4 : Int32} {μ : Mem} {H : Heap} {locs : List Loc} {ls : Array Slot} (hH : Hd ω μ H) (hS : FS ω s H locs) (hl : lv_has ls 10 [(0, .ref (wB ω + q)), (2, .ref (wB ω + q2)), (3, .int x3), (4, .int x4)]) (h : fX1_valueOf_b21 q q2 x3 x4 μ = some (rr, μo)) : W p l e (rmd 2) s m args below meth c H locs 0 0 (MQ below (QR ω (some (.int rr)) μo) args s 0 0 (wA ω)) (F0 m 21 ls []) := by
  have hx := C.1
  have hb := C.2.1
  unfold fX1_valueOf_b21 at h
  refine lv_aload_n hx hb dX1_valueOf_21 rfl (lv_at hl 0 rfl) ?_
  refine g_239 C hH hq.1 dX1_valueOf_22 ?_
  exact wX1_valueOf_b25 hq hq2 C hr hk hH hS hl h
set_option maxHeartbeats 4000000 in
set_option maxRecDepth 100000 in
theorem wX1_valueOf_e {q : Nat} {q2 : Nat} (hq : IsL ω q) (hq2 : IsS ω q2) (C : Cx ω p s m args c cX1_valueOf 10 RX1) (hr : meth.sig.returnType = some .int) (hk : meth.locks = false) {rr : Int32} {μo : Mem} {x1 : Int32} {x3 : Int32} {μ : Mem} {H : Heap} {locs : List Loc} {ls : Array Slot} (hH : Hd ω μ H) (hS : FS ω s H locs) (hl : lv_has ls 10 [(0, .ref (wB ω + q)), (1, .int x1), (2, .ref (wB ω + q2)), (3, .int x3)]) (h : fX1_valueOf q x1 q2 x3 μ = some (rr, μo)) : W p l e (rmd 2) s m args below meth c H locs 0 0 (MQ below (QR ω (some (.int rr)) μo) args s 0 0 (wA ω)) (F0 m 0 ls []) := by
  have hx := C.1
  have hb := C.2.1
  unfold fX1_valueOf at h
  refine lv_iconst (v := 0) hx hb dX1_valueOf_0 (by decide) ?_
  refine lv_istore (lv' := [(4, .int 0), (0, .ref (wB ω + q)), (1, .int x1), (2, .ref (wB ω + q2)), (3, .int x3)]) hx hb dX1_valueOf_1 hl (by decide) rfl (fun ls hl => ?_)
  refine lv_iload_n hx hb dX1_valueOf_3 rfl (lv_at hl 2 rfl) ?_
  refine lv_if_lt (tgt := 21) hx hb dX1_valueOf_4 (by decide) (fun hc => ?_) (fun hc => ?_)
  · have h := ite_t hc h
    exact wX1_valueOf_b21 hq hq2 C hr hk hH hS (lv_sub hl [1, 3, 4, 0] rfl) h
  · have h := ite_f hc h
    refine lv_iload_n hx hb dX1_valueOf_7 rfl (lv_at hl 2 rfl) ?_
    refine lv_iconst (v := 4) hx hb dX1_valueOf_8 (by decide) ?_
    refine lv_icmp_ge (tgt := 21) hx hb dX1_valueOf_9 (by decide) (fun hc => ?_) (fun hc => ?_)
    · have h := ite_t hc h
      exact wX1_valueOf_b21 hq hq2 C hr hk hH hS (lv_sub hl [1, 3, 4, 0] rfl) h
    · have h := ite_f hc h
      refine lv_aload_n hx hb dX1_valueOf_12 rfl (lv_at hl 1 rfl) ?_
      refine g_237 (i := q + 3) C hH hq.1 rfl dX1_valueOf_13 ?_
      refine lv_iload_n hx hb dX1_valueOf_16 rfl (lv_at hl 2 rfl) ?_
      obtain ⟨b30, h⟩ := gd_e h
      refine h_iald C hH hq.2.2.2.1.1 hq.2.2.2.1.2.1 b30 dX1_valueOf_17 ?_
      refine lv_goto (tgt := 25) hx hb dX1_valueOf_18 (by decide) ?_
      exact wX1_valueOf_b25 hq hq2 C hr hk hH hS (lv_sub hl [1, 3, 4, 0] rfl) h
theorem c_X1_valueOf {l : Launch} {ω : WW} {q : Nat} {x1 : Int32} {q2 : Nat} {x3 : Int32} (hq : IsL ω q) (hq2 : IsS ω q2) {μ : Mem} {rr : Int32} {μo : Mem} (h : fX1_valueOf q x1 q2 x3 μ = some (rr, μo)) : Con l yX1_valueOf cX1_valueOf 10 (some .int) 2 ω [.ref (wB ω + q), .int x1, .ref (wB ω + q2), .int x3] μ (some (.int rr)) μo :=
  con_of (by decide) (Nat.le_of_ble_eq_true rfl) (fun p e s m args below meth c ls C hr hk hl hH hS => wX1_valueOf_e hq hq2 C hr hk hH hS (lv_sub hl [0, 1, 2, 3] rfl) h)
set_option maxHeartbeats 4000000 in
set_option maxRecDepth 100000 in
theorem wX3_warms_e {q : Nat} {q1 : Nat} (hq : IsQ ω q) (hq1 : IsS ω q1) (C : Cx ω p s m args c cX3_warms 3 RX3) (hr : meth.sig.returnType = some .int) (hk : meth.locks = false) {rr : Int32} {μo : Mem} {x2 : Int32} {μ : Mem} {H : Heap} {locs : List Loc} {ls : Array Slot} (hH : Hd ω μ H) (hS : FS ω s H locs) (hl : lv_has ls 3 [(0, .ref (wB ω + q)), (1, .ref (wB ω + q1)), (2, .int x2)]) (h : fX3_warms q q1 x2 μ = some (rr, μo)) : W p l e (rmd 3) s m args below meth c H locs 0 0 (MQ below (QR ω (some (.int rr)) μo) args s 0 0 (wA ω)) (F0 m 0 ls []) := by
  have hx := C.1
  have hb := C.2.1
  unfold fX3_warms at h
  refine lv_iconst (v := 0) hx hb dX3_warms_0 (by decide) ?_
  refine lv_bipush (v := 99) hx hb dX3_warms_1 (by decide) ?_
  refine lv_aload_n hx hb dX3_warms_3 rfl (lv_at hl 0 rfl) ?_
  refine g_258 (i := q + 2) C hH hq.1 rfl dX3_warms_4 ?_
  refine lv_iconst (v := 1) hx hb dX3_warms_7 (by decide) ?_
  refine lv_aload_n hx hb dX3_warms_8 rfl (lv_at hl 1 rfl) ?_
  refine lv_iload_n hx hb dX3_warms_9 rfl (lv_at hl 2 rfl) ?_
  obtain ⟨r3, μ2, e1, h⟩ := b2_e h
  refine cVi (as := [.int 1, .ref (wB ω + q1), .int x2]) (rest := [.int 99, .int 0]) (c_X1_valueOf hq.2.2 hq1 e1) C hl.1 hH hS rfl hq.2.2.1 rfl wd_753 wd_752 mw_X1_valueOf wd_751 rfl (rm_ok (by decide) (by decide)) (Nat.le_of_ble_eq_true rfl) ⟨Nat.zero_le _, Nat.zero_le _⟩ (by decide) dX3_warms_10 (fun H locs hH hS => ?_)
  refine h_mmin C hl.1 wd_760 (rest := [.int 0]) (Nat.le_of_ble_eq_true rfl) (Nat.le_of_ble_eq_true rfl) ⟨Nat.zero_le _, Nat.zero_le _⟩ dX3_warms_13 ?_
  refine h_topi (y := jmin 99 r3) rfl ?_
  refine h_mmax C hl.1 wd_761 (rest := []) (Nat.le_of_ble_eq_true rfl) (Nat.le_of_ble_eq_true rfl) ⟨Nat.zero_le _, Nat.zero_le _⟩ dX3_warms_16 ?_
  refine h_topi (y := jmax 0 (jmin 99 r3)) rfl ?_
  exact h_iret C hr hk hH hS rfl (by cases h; rfl) dX3_warms_19
theorem c_X3_warms {l : Launch} {ω : WW} {q : Nat} {q1 : Nat} {x2 : Int32} (hq : IsQ ω q) (hq1 : IsS ω q1) {μ : Mem} {rr : Int32} {μo : Mem} (h : fX3_warms q q1 x2 μ = some (rr, μo)) : Con l yX3_warms cX3_warms 3 (some .int) 3 ω [.ref (wB ω + q), .ref (wB ω + q1), .int x2] μ (some (.int rr)) μo :=
  con_of (by decide) (Nat.le_of_ble_eq_true rfl) (fun p e s m args below meth c ls C hr hk hl hH hS => wX3_warms_e hq hq1 C hr hk hH hS (lv_sub hl [0, 1, 2] rfl) h)
set_option maxHeartbeats 4000000 in
set_option maxRecDepth 100000 in
theorem wX7_set_e {q : Nat} (hq : IsS ω q) (C : Cx ω p s m args c cX7_set 5 RX7) (hr : meth.sig.returnType = none) (hk : meth.locks = false) {μo : Mem} {x1 : Int32} {x2 : Int32} {x3 : Int32} {μ : Mem} {H : Heap} {locs : List Loc} {ls : Array Slot} (hH : Hd ω μ H) (hS : FS ω s H locs) (hl : lv_has ls 5 [(0, .ref (wB ω + q)), (1, .int x1), (2, .int x2), (3, .int x3)]) (h : fX7_set q x1 x2 x3 μ = some μo) : W p l e (rmd 1) s m args below meth c H locs 0 0 (MQ below (QR ω none μo) args s 0 0 (wA ω)) (F0 m 0 ls []) := by
  have hx := C.1
  have hb := C.2.1
  unfold fX7_set at h
  refine lv_iload_n hx hb dX7_set_0 rfl (lv_at hl 1 rfl) ?_
  refine lv_bipush (v := 7) hx hb dX7_set_1 (by decide) ?_
  refine lv_imul hx hb dX7_set_3 ?_
  refine lv_iload_n hx hb dX7_set_4 rfl (lv_at hl 2 rfl) ?_
  refine lv_iadd hx hb dX7_set_5 ?_
  obtain ⟨y1, e2, h⟩ := bd_e h
  refine h_topi e2 ?_
  refine lv_istore (lv' := [(4, .int y1), (0, .ref (wB ω + q)), (1, .int x1), (2, .int x2), (3, .int x3)]) hx hb dX7_set_6 hl (by decide) rfl (fun ls hl => ?_)
  refine lv_iload hx hb dX7_set_8 (lv_at hl 0 rfl) ?_
  refine lv_if_lt (tgt := 31) hx hb dX7_set_10 (by decide) (fun hc => ?_) (fun hc => ?_)
  · have h := ite_t hc h
    exact h_vret C hr hk hH hS (by cases h; rfl) dX7_set_31
  · have h := ite_f hc h
    refine lv_iload hx hb dX7_set_13 (lv_at hl 0 rfl) ?_
    refine lv_aload_n hx hb dX7_set_15 rfl (lv_at hl 1 rfl) ?_
    refine g_322 (i := q + 1) C hH hq.1 rfl dX7_set_16 ?_
    refine h_alen (v := 42) C hH hq.2.1 hq.2.2.1 (by decide) (by decide) (by decide) dX7_set_19 ?_
    refine lv_icmp_ge (tgt := 31) hx hb dX7_set_20 (by decide) (fun hc => ?_) (fun hc => ?_)
    · have h := ite_t hc h
      exact h_vret C hr hk hH hS (by cases h; rfl) dX7_set_31
    · have h := ite_f hc h
      refine lv_aload_n hx hb dX7_set_23 rfl (lv_at hl 1 rfl) ?_
      refine g_322 (i := q + 1) C hH hq.1 rfl dX7_set_24 ?_
      refine lv_iload hx hb dX7_set_27 (lv_at hl 0 rfl) ?_
      refine lv_iload_n hx hb dX7_set_29 rfl (lv_at hl 4 rfl) ?_
      obtain ⟨b3, h⟩ := gd_e h
      obtain ⟨μ4, e5, h⟩ := bd_e h
      refine h_iast C hH hS hq.2.1 hq.2.2.1 b3 dX7_set_30 (fun H locs hH hS => ?_)
      have hH := Hd.to e5 hH
      exact h_vret C hr hk hH hS (by cases h; rfl) dX7_set_31
theorem c_X7_set {l : Launch} {ω : WW} {q : Nat} {x1 : Int32} {x2 : Int32} {x3 : Int32} (hq : IsS ω q) {μ : Mem} {μo : Mem} (h : fX7_set q x1 x2 x3 μ = some μo) : Con l yX7_set cX7_set 5 none 1 ω [.ref (wB ω + q), .int x1, .int x2, .int x3] μ none μo :=
  con_of (by decide) (Nat.le_of_ble_eq_true rfl) (fun p e s m args below meth c ls C hr hk hl hH hS => wX7_set_e hq C hr hk hH hS (lv_sub hl [0, 1, 2, 3] rfl) h)
end WK0
