theorem dX3_burnIn_0 : decode cX3_burnIn 0 = .ok (.iconst 0, 1) := by decide +kernel
theorem dX3_burnIn_1 : decode cX3_burnIn 1 = .ok (.istore 4, 2) := by decide +kernel
theorem dX3_burnIn_3 : decode cX3_burnIn 3 = .ok (.iload 4, 2) := by decide +kernel
theorem dX3_burnIn_5 : decode cX3_burnIn 5 = .ok (.iload_n 3, 1) := by decide +kernel
theorem dX3_burnIn_6 : decode cX3_burnIn 6 = .ok (.if_icmp .ge 74, 3) := by decide +kernel
theorem dX3_burnIn_9 : decode cX3_burnIn 9 = .ok (.aload_n 1, 1) := by decide +kernel
theorem dX3_burnIn_10 : decode cX3_burnIn 10 = .ok (.iload_n 2, 1) := by decide +kernel
theorem dX3_burnIn_11 : decode cX3_burnIn 11 = .ok (.iconst 2, 1) := by decide +kernel
theorem dX3_burnIn_12 : decode cX3_burnIn 12 = .ok (.invokevirtual 94, 3) := by decide +kernel
theorem dX3_burnIn_15 : decode cX3_burnIn 15 = .ok (.aload_n 0, 1) := by decide +kernel
theorem dX3_burnIn_16 : decode cX3_burnIn 16 = .ok (.aload_n 1, 1) := by decide +kernel
theorem dX3_burnIn_17 : decode cX3_burnIn 17 = .ok (.iload_n 2, 1) := by decide +kernel
theorem dX3_burnIn_18 : decode cX3_burnIn 18 = .ok (.invokevirtual 97, 3) := by decide +kernel
theorem dX3_burnIn_21 : decode cX3_burnIn 21 = .ok (.iadd, 1) := by decide +kernel
theorem dX3_burnIn_22 : decode cX3_burnIn 22 = .ok (.istore 5, 2) := by decide +kernel
theorem dX3_burnIn_24 : decode cX3_burnIn 24 = .ok (.aload_n 1, 1) := by decide +kernel
theorem dX3_burnIn_25 : decode cX3_burnIn 25 = .ok (.iload_n 2, 1) := by decide +kernel
theorem dX3_burnIn_26 : decode cX3_burnIn 26 = .ok (.iconst 2, 1) := by decide +kernel
theorem dX3_burnIn_27 : decode cX3_burnIn 27 = .ok (.sipush 999, 3) := by decide +kernel
theorem dX3_burnIn_30 : decode cX3_burnIn 30 = .ok (.iload 5, 2) := by decide +kernel
theorem dX3_burnIn_32 : decode cX3_burnIn 32 = .ok (.invokestatic 88, 3) := by decide +kernel
theorem dX3_burnIn_35 : decode cX3_burnIn 35 = .ok (.invokevirtual 54, 3) := by decide +kernel
theorem dX3_burnIn_38 : decode cX3_burnIn 38 = .ok (.aload_n 1, 1) := by decide +kernel
theorem dX3_burnIn_39 : decode cX3_burnIn 39 = .ok (.iload_n 2, 1) := by decide +kernel
theorem dX3_burnIn_40 : decode cX3_burnIn 40 = .ok (.bipush 6, 2) := by decide +kernel
theorem dX3_burnIn_42 : decode cX3_burnIn 42 = .ok (.aload_n 1, 1) := by decide +kernel
theorem dX3_burnIn_43 : decode cX3_burnIn 43 = .ok (.iload_n 2, 1) := by decide +kernel
theorem dX3_burnIn_44 : decode cX3_burnIn 44 = .ok (.bipush 6, 2) := by decide +kernel
theorem dX3_burnIn_46 : decode cX3_burnIn 46 = .ok (.invokevirtual 94, 3) := by decide +kernel
theorem dX3_burnIn_49 : decode cX3_burnIn 49 = .ok (.iconst 1, 1) := by decide +kernel
theorem dX3_burnIn_50 : decode cX3_burnIn 50 = .ok (.iadd, 1) := by decide +kernel
theorem dX3_burnIn_51 : decode cX3_burnIn 51 = .ok (.invokevirtual 54, 3) := by decide +kernel
theorem dX3_burnIn_54 : decode cX3_burnIn 54 = .ok (.aload_n 1, 1) := by decide +kernel
theorem dX3_burnIn_55 : decode cX3_burnIn 55 = .ok (.dup, 1) := by decide +kernel
theorem dX3_burnIn_56 : decode cX3_burnIn 56 = .ok (.getfield 65, 3) := by decide +kernel
theorem dX3_burnIn_59 : decode cX3_burnIn 59 = .ok (.iconst 1, 1) := by decide +kernel
theorem dX3_burnIn_60 : decode cX3_burnIn 60 = .ok (.isub, 1) := by decide +kernel
theorem dX3_burnIn_61 : decode cX3_burnIn 61 = .ok (.putfield 65, 3) := by decide +kernel
theorem dX3_burnIn_64 : decode cX3_burnIn 64 = .ok (.aload_n 1, 1) := by decide +kernel
theorem dX3_burnIn_65 : decode cX3_burnIn 65 = .ok (.dup, 1) := by decide +kernel
theorem dX3_burnIn_66 : decode cX3_burnIn 66 = .ok (.getfield 66, 3) := by decide +kernel
theorem dX3_burnIn_69 : decode cX3_burnIn 69 = .ok (.iconst 1, 1) := by decide +kernel
theorem dX3_burnIn_70 : decode cX3_burnIn 70 = .ok (.iadd, 1) := by decide +kernel
theorem dX3_burnIn_71 : decode cX3_burnIn 71 = .ok (.putfield 66, 3) := by decide +kernel
theorem dX3_burnIn_74 : decode cX3_burnIn 74 = .ok (.iinc 4 1, 3) := by decide +kernel
theorem dX3_burnIn_77 : decode cX3_burnIn 77 = .ok (.goto (-74), 3) := by decide +kernel
theorem dX3_burnIn_80 : decode cX3_burnIn 80 = .ok (.return_, 1) := by decide +kernel
theorem dX11_burn_0 : decode cX11_burn 0 = .ok (.aload_n 0, 1) := by decide +kernel
theorem dX11_burn_1 : decode cX11_burn 1 = .ok (.iload_n 1, 1) := by decide +kernel
theorem dX11_burn_2 : decode cX11_burn 2 = .ok (.invokevirtual 130, 3) := by decide +kernel
theorem dX11_burn_5 : decode cX11_burn 5 = .ok (.ifCond .eq 25, 3) := by decide +kernel
theorem dX11_burn_8 : decode cX11_burn 8 = .ok (.iload_n 2, 1) := by decide +kernel
theorem dX11_burn_9 : decode cX11_burn 9 = .ok (.iconst 1, 1) := by decide +kernel
theorem dX11_burn_10 : decode cX11_burn 10 = .ok (.if_icmp .lt 20, 3) := by decide +kernel
theorem dX11_burn_13 : decode cX11_burn 13 = .ok (.iload_n 2, 1) := by decide +kernel
theorem dX11_burn_14 : decode cX11_burn 14 = .ok (.bipush 99, 2) := by decide +kernel
theorem dX11_burn_16 : decode cX11_burn 16 = .ok (.if_icmp .gt 14, 3) := by decide +kernel
theorem dX11_burn_19 : decode cX11_burn 19 = .ok (.iload_n 2, 1) := by decide +kernel
theorem dX11_burn_20 : decode cX11_burn 20 = .ok (.aload_n 0, 1) := by decide +kernel
theorem dX11_burn_21 : decode cX11_burn 21 = .ok (.getfield 30, 3) := by decide +kernel
theorem dX11_burn_24 : decode cX11_burn 24 = .ok (.getfield 38, 3) := by decide +kernel
theorem dX11_burn_27 : decode cX11_burn 27 = .ok (.if_icmp .le 5, 3) := by decide +kernel
theorem dX11_burn_30 : decode cX11_burn 30 = .ok (.iconst (-1), 1) := by decide +kernel
theorem dX11_burn_31 : decode cX11_burn 31 = .ok (.ireturn, 1) := by decide +kernel
theorem dX11_burn_32 : decode cX11_burn 32 = .ok (.aload_n 0, 1) := by decide +kernel
theorem dX11_burn_33 : decode cX11_burn 33 = .ok (.getfield 48, 3) := by decide +kernel
theorem dX11_burn_36 : decode cX11_burn 36 = .ok (.aload_n 0, 1) := by decide +kernel
theorem dX11_burn_37 : decode cX11_burn 37 = .ok (.getfield 30, 3) := by decide +kernel
theorem dX11_burn_40 : decode cX11_burn 40 = .ok (.invokevirtual 197, 3) := by decide +kernel
theorem dX11_burn_43 : decode cX11_burn 43 = .ok (.aload_n 0, 1) := by decide +kernel
theorem dX11_burn_44 : decode cX11_burn 44 = .ok (.getfield 23, 3) := by decide +kernel
theorem dX11_burn_47 : decode cX11_burn 47 = .ok (.aload_n 0, 1) := by decide +kernel
theorem dX11_burn_48 : decode cX11_burn 48 = .ok (.getfield 30, 3) := by decide +kernel
theorem dX11_burn_51 : decode cX11_burn 51 = .ok (.iload_n 1, 1) := by decide +kernel
theorem dX11_burn_52 : decode cX11_burn 52 = .ok (.iload_n 2, 1) := by decide +kernel
theorem dX11_burn_53 : decode cX11_burn 53 = .ok (.invokevirtual 200, 3) := by decide +kernel
theorem dX11_burn_56 : decode cX11_burn 56 = .ok (.aload_n 0, 1) := by decide +kernel
theorem dX11_burn_57 : decode cX11_burn 57 = .ok (.getfield 30, 3) := by decide +kernel
theorem dX11_burn_60 : decode cX11_burn 60 = .ok (.iload_n 1, 1) := by decide +kernel
theorem dX11_burn_61 : decode cX11_burn 61 = .ok (.iconst 2, 1) := by decide +kernel
theorem dX11_burn_62 : decode cX11_burn 62 = .ok (.invokevirtual 134, 3) := by decide +kernel
theorem dX11_burn_65 : decode cX11_burn 65 = .ok (.ireturn, 1) := by decide +kernel
theorem dX3_fades_0 : decode cX3_fades 0 = .ok (.aload_n 1, 1) := by decide +kernel
theorem dX3_fades_1 : decode cX3_fades 1 = .ok (.iload_n 2, 1) := by decide +kernel
theorem dX3_fades_2 : decode cX3_fades 2 = .ok (.iconst 3, 1) := by decide +kernel
theorem dX3_fades_3 : decode cX3_fades 3 = .ok (.invokevirtual 94, 3) := by decide +kernel
theorem dX3_fades_6 : decode cX3_fades 6 = .ok (.istore_n 3, 1) := by decide +kernel
theorem dX3_fades_7 : decode cX3_fades 7 = .ok (.iconst 0, 1) := by decide +kernel
theorem dX3_fades_8 : decode cX3_fades 8 = .ok (.iload_n 3, 1) := by decide +kernel
theorem dX3_fades_9 : decode cX3_fades 9 = .ok (.aload_n 0, 1) := by decide +kernel
theorem dX3_fades_10 : decode cX3_fades 10 = .ok (.getfield 18, 3) := by decide +kernel
theorem dX3_fades_13 : decode cX3_fades 13 = .ok (.iconst 2, 1) := by decide +kernel
theorem dX3_fades_14 : decode cX3_fades 14 = .ok (.aload_n 1, 1) := by decide +kernel
theorem dX3_fades_15 : decode cX3_fades 15 = .ok (.iload_n 2, 1) := by decide +kernel
theorem dX3_fades_16 : decode cX3_fades 16 = .ok (.invokevirtual 84, 3) := by decide +kernel
theorem dX3_fades_19 : decode cX3_fades 19 = .ok (.invokestatic 88, 3) := by decide +kernel
theorem dX3_fades_22 : decode cX3_fades 22 = .ok (.invokestatic 91, 3) := by decide +kernel
theorem dX3_fades_25 : decode cX3_fades 25 = .ok (.ireturn, 1) := by decide +kernel
theorem dX11_coalsNeeded_0 : decode cX11_coalsNeeded 0 = .ok (.aload_n 0, 1) := by decide +kernel
theorem dX11_coalsNeeded_1 : decode cX11_coalsNeeded 1 = .ok (.getfield 42, 3) := by decide +kernel
theorem dX11_coalsNeeded_4 : decode cX11_coalsNeeded 4 = .ok (.aload_n 1, 1) := by decide +kernel
theorem dX11_coalsNeeded_5 : decode cX11_coalsNeeded 5 = .ok (.invokevirtual 233, 3) := by decide +kernel
theorem dX11_coalsNeeded_8 : decode cX11_coalsNeeded 8 = .ok (.iconst 0, 1) := by decide +kernel
theorem dX11_coalsNeeded_9 : decode cX11_coalsNeeded 9 = .ok (.istore_n 3, 1) := by decide +kernel
theorem dX11_coalsNeeded_10 : decode cX11_coalsNeeded 10 = .ok (.iload_n 3, 1) := by decide +kernel
theorem dX11_coalsNeeded_11 : decode cX11_coalsNeeded 11 = .ok (.bipush 30, 2) := by decide +kernel
theorem dX11_coalsNeeded_13 : decode cX11_coalsNeeded 13 = .ok (.if_icmp .gt 39, 3) := by decide +kernel
theorem dX11_coalsNeeded_16 : decode cX11_coalsNeeded 16 = .ok (.aload_n 0, 1) := by decide +kernel
theorem dX11_coalsNeeded_17 : decode cX11_coalsNeeded 17 = .ok (.getfield 23, 3) := by decide +kernel
theorem dX11_coalsNeeded_20 : decode cX11_coalsNeeded 20 = .ok (.aload_n 0, 1) := by decide +kernel
theorem dX11_coalsNeeded_21 : decode cX11_coalsNeeded 21 = .ok (.getfield 42, 3) := by decide +kernel
theorem dX11_coalsNeeded_24 : decode cX11_coalsNeeded 24 = .ok (.iload_n 2, 1) := by decide +kernel
theorem dX11_coalsNeeded_25 : decode cX11_coalsNeeded 25 = .ok (.invokevirtual 145, 3) := by decide +kernel
theorem dX11_coalsNeeded_28 : decode cX11_coalsNeeded 28 = .ok (.ifCond .ne 5, 3) := by decide +kernel
theorem dX11_coalsNeeded_31 : decode cX11_coalsNeeded 31 = .ok (.iload_n 3, 1) := by decide +kernel
theorem dX11_coalsNeeded_32 : decode cX11_coalsNeeded 32 = .ok (.ireturn, 1) := by decide +kernel
theorem dX11_coalsNeeded_33 : decode cX11_coalsNeeded 33 = .ok (.aload_n 0, 1) := by decide +kernel
theorem dX11_coalsNeeded_34 : decode cX11_coalsNeeded 34 = .ok (.getfield 23, 3) := by decide +kernel
theorem dX11_coalsNeeded_37 : decode cX11_coalsNeeded 37 = .ok (.aload_n 0, 1) := by decide +kernel
theorem dX11_coalsNeeded_38 : decode cX11_coalsNeeded 38 = .ok (.getfield 42, 3) := by decide +kernel
theorem dX11_coalsNeeded_41 : decode cX11_coalsNeeded 41 = .ok (.iload_n 2, 1) := by decide +kernel
theorem dX11_coalsNeeded_42 : decode cX11_coalsNeeded 42 = .ok (.iconst 1, 1) := by decide +kernel
theorem dX11_coalsNeeded_43 : decode cX11_coalsNeeded 43 = .ok (.invokevirtual 200, 3) := by decide +kernel
theorem dX11_coalsNeeded_46 : decode cX11_coalsNeeded 46 = .ok (.iinc 3 1, 3) := by decide +kernel
theorem dX11_coalsNeeded_49 : decode cX11_coalsNeeded 49 = .ok (.goto (-39), 3) := by decide +kernel
theorem dX11_coalsNeeded_52 : decode cX11_coalsNeeded 52 = .ok (.iconst (-1), 1) := by decide +kernel
theorem dX11_coalsNeeded_53 : decode cX11_coalsNeeded 53 = .ok (.ireturn, 1) := by decide +kernel
theorem dX3_cools_0 : decode cX3_cools 0 = .ok (.iconst 0, 1) := by decide +kernel
theorem dX3_cools_1 : decode cX3_cools 1 = .ok (.bipush 99, 2) := by decide +kernel
theorem dX3_cools_3 : decode cX3_cools 3 = .ok (.aload_n 0, 1) := by decide +kernel
theorem dX3_cools_4 : decode cX3_cools 4 = .ok (.getfield 18, 3) := by decide +kernel
theorem dX3_cools_7 : decode cX3_cools 7 = .ok (.iconst 0, 1) := by decide +kernel
theorem dX3_cools_8 : decode cX3_cools 8 = .ok (.aload_n 1, 1) := by decide +kernel
theorem dX3_cools_9 : decode cX3_cools 9 = .ok (.iload_n 2, 1) := by decide +kernel
theorem dX3_cools_10 : decode cX3_cools 10 = .ok (.invokevirtual 84, 3) := by decide +kernel
theorem dX3_cools_13 : decode cX3_cools 13 = .ok (.invokestatic 88, 3) := by decide +kernel
theorem dX3_cools_16 : decode cX3_cools 16 = .ok (.invokestatic 91, 3) := by decide +kernel
theorem dX3_cools_19 : decode cX3_cools 19 = .ok (.ireturn, 1) := by decide +kernel
theorem dX3_timesCooled_0 : decode cX3_timesCooled 0 = .ok (.iconst 1, 1) := by decide +kernel
theorem dX3_timesCooled_1 : decode cX3_timesCooled 1 = .ok (.aload_n 1, 1) := by decide +kernel
theorem dX3_timesCooled_2 : decode cX3_timesCooled 2 = .ok (.iload_n 2, 1) := by decide +kernel
theorem dX3_timesCooled_3 : decode cX3_timesCooled 3 = .ok (.iconst 4, 1) := by decide +kernel
theorem dX3_timesCooled_4 : decode cX3_timesCooled 4 = .ok (.invokevirtual 94, 3) := by decide +kernel
theorem dX3_timesCooled_7 : decode cX3_timesCooled 7 = .ok (.iadd, 1) := by decide +kernel
theorem dX3_timesCooled_8 : decode cX3_timesCooled 8 = .ok (.ireturn, 1) := by decide +kernel
theorem dX3_passHouse_0 : decode cX3_passHouse 0 = .ok (.aload_n 0, 1) := by decide +kernel
theorem dX3_passHouse_1 : decode cX3_passHouse 1 = .ok (.aload_n 1, 1) := by decide +kernel
theorem dX3_passHouse_2 : decode cX3_passHouse 2 = .ok (.iload_n 2, 1) := by decide +kernel
theorem dX3_passHouse_3 : decode cX3_passHouse 3 = .ok (.invokevirtual 101, 3) := by decide +kernel
theorem dX3_passHouse_6 : decode cX3_passHouse 6 = .ok (.istore_n 3, 1) := by decide +kernel
theorem dX3_passHouse_7 : decode cX3_passHouse 7 = .ok (.aload_n 0, 1) := by decide +kernel
theorem dX3_passHouse_8 : decode cX3_passHouse 8 = .ok (.aload_n 1, 1) := by decide +kernel
theorem dX3_passHouse_9 : decode cX3_passHouse 9 = .ok (.iload_n 2, 1) := by decide +kernel
theorem dX3_passHouse_10 : decode cX3_passHouse 10 = .ok (.invokevirtual 104, 3) := by decide +kernel
theorem dX3_passHouse_13 : decode cX3_passHouse 13 = .ok (.aload_n 0, 1) := by decide +kernel
theorem dX3_passHouse_14 : decode cX3_passHouse 14 = .ok (.aload_n 1, 1) := by decide +kernel
theorem dX3_passHouse_15 : decode cX3_passHouse 15 = .ok (.iload_n 2, 1) := by decide +kernel
theorem dX3_passHouse_16 : decode cX3_passHouse 16 = .ok (.invokevirtual 107, 3) := by decide +kernel
theorem dX3_passHouse_19 : decode cX3_passHouse 19 = .ok (.imul, 1) := by decide +kernel
theorem dX3_passHouse_20 : decode cX3_passHouse 20 = .ok (.istore 4, 2) := by decide +kernel
theorem dX3_passHouse_22 : decode cX3_passHouse 22 = .ok (.aload_n 1, 1) := by decide +kernel
theorem dX3_passHouse_23 : decode cX3_passHouse 23 = .ok (.iload_n 2, 1) := by decide +kernel
theorem dX3_passHouse_24 : decode cX3_passHouse 24 = .ok (.iconst 3, 1) := by decide +kernel
theorem dX3_passHouse_25 : decode cX3_passHouse 25 = .ok (.aload_n 1, 1) := by decide +kernel
theorem dX3_passHouse_26 : decode cX3_passHouse 26 = .ok (.iload_n 2, 1) := by decide +kernel
theorem dX3_passHouse_27 : decode cX3_passHouse 27 = .ok (.iconst 3, 1) := by decide +kernel
theorem dX3_passHouse_28 : decode cX3_passHouse 28 = .ok (.invokevirtual 94, 3) := by decide +kernel
theorem dX3_passHouse_31 : decode cX3_passHouse 31 = .ok (.iload_n 3, 1) := by decide +kernel
theorem dX3_passHouse_32 : decode cX3_passHouse 32 = .ok (.isub, 1) := by decide +kernel
theorem dX3_passHouse_33 : decode cX3_passHouse 33 = .ok (.invokevirtual 54, 3) := by decide +kernel
theorem dX3_passHouse_36 : decode cX3_passHouse 36 = .ok (.aload_n 1, 1) := by decide +kernel
theorem dX3_passHouse_37 : decode cX3_passHouse 37 = .ok (.iload_n 2, 1) := by decide +kernel
theorem dX3_passHouse_38 : decode cX3_passHouse 38 = .ok (.iconst 2, 1) := by decide +kernel
theorem dX3_passHouse_39 : decode cX3_passHouse 39 = .ok (.iconst 0, 1) := by decide +kernel
theorem dX3_passHouse_40 : decode cX3_passHouse 40 = .ok (.aload_n 1, 1) := by decide +kernel
theorem dX3_passHouse_41 : decode cX3_passHouse 41 = .ok (.iload_n 2, 1) := by decide +kernel
theorem dX3_passHouse_42 : decode cX3_passHouse 42 = .ok (.iconst 2, 1) := by decide +kernel
theorem dX3_passHouse_43 : decode cX3_passHouse 43 = .ok (.invokevirtual 94, 3) := by decide +kernel
theorem dX3_passHouse_46 : decode cX3_passHouse 46 = .ok (.iload 4, 2) := by decide +kernel
theorem dX3_passHouse_48 : decode cX3_passHouse 48 = .ok (.isub, 1) := by decide +kernel
theorem dX3_passHouse_49 : decode cX3_passHouse 49 = .ok (.invokestatic 91, 3) := by decide +kernel
theorem dX3_passHouse_52 : decode cX3_passHouse 52 = .ok (.invokevirtual 54, 3) := by decide +kernel
theorem dX3_passHouse_55 : decode cX3_passHouse 55 = .ok (.aload_n 1, 1) := by decide +kernel
theorem dX3_passHouse_56 : decode cX3_passHouse 56 = .ok (.iload_n 2, 1) := by decide +kernel
theorem dX3_passHouse_57 : decode cX3_passHouse 57 = .ok (.bipush 6, 2) := by decide +kernel
theorem dX3_passHouse_59 : decode cX3_passHouse 59 = .ok (.iconst 0, 1) := by decide +kernel
theorem dX3_passHouse_60 : decode cX3_passHouse 60 = .ok (.invokevirtual 54, 3) := by decide +kernel
theorem dX3_passHouse_63 : decode cX3_passHouse 63 = .ok (.return_, 1) := by decide +kernel
theorem dX11_daysTillNothing_0 : decode cX11_daysTillNothing 0 = .ok (.aload_n 0, 1) := by decide +kernel
theorem dX11_daysTillNothing_1 : decode cX11_daysTillNothing 1 = .ok (.getfield 39, 3) := by decide +kernel
theorem dX11_daysTillNothing_4 : decode cX11_daysTillNothing 4 = .ok (.aload_n 0, 1) := by decide +kernel
theorem dX11_daysTillNothing_5 : decode cX11_daysTillNothing 5 = .ok (.getfield 30, 3) := by decide +kernel
theorem dX11_daysTillNothing_8 : decode cX11_daysTillNothing 8 = .ok (.invokevirtual 233, 3) := by decide +kernel
theorem dX11_daysTillNothing_11 : decode cX11_daysTillNothing 11 = .ok (.iconst 0, 1) := by decide +kernel
theorem dX11_daysTillNothing_12 : decode cX11_daysTillNothing 12 = .ok (.istore_n 3, 1) := by decide +kernel
theorem dX11_daysTillNothing_13 : decode cX11_daysTillNothing 13 = .ok (.iload_n 3, 1) := by decide +kernel
theorem dX11_daysTillNothing_14 : decode cX11_daysTillNothing 14 = .ok (.sipush 200, 3) := by decide +kernel
theorem dX11_daysTillNothing_17 : decode cX11_daysTillNothing 17 = .ok (.if_icmp .gt 48, 3) := by decide +kernel
theorem dX11_daysTillNothing_20 : decode cX11_daysTillNothing 20 = .ok (.aload_n 0, 1) := by decide +kernel
theorem dX11_daysTillNothing_21 : decode cX11_daysTillNothing 21 = .ok (.getfield 39, 3) := by decide +kernel
theorem dX11_daysTillNothing_24 : decode cX11_daysTillNothing 24 = .ok (.iload_n 1, 1) := by decide +kernel
theorem dX11_daysTillNothing_25 : decode cX11_daysTillNothing 25 = .ok (.iload_n 2, 1) := by decide +kernel
theorem dX11_daysTillNothing_26 : decode cX11_daysTillNothing 26 = .ok (.invokevirtual 134, 3) := by decide +kernel
theorem dX11_daysTillNothing_29 : decode cX11_daysTillNothing 29 = .ok (.ifCond .ne 5, 3) := by decide +kernel
theorem dX11_daysTillNothing_32 : decode cX11_daysTillNothing 32 = .ok (.iload_n 3, 1) := by decide +kernel
theorem dX11_daysTillNothing_33 : decode cX11_daysTillNothing 33 = .ok (.ireturn, 1) := by decide +kernel
theorem dX11_daysTillNothing_34 : decode cX11_daysTillNothing 34 = .ok (.aload_n 0, 1) := by decide +kernel
theorem dX11_daysTillNothing_35 : decode cX11_daysTillNothing 35 = .ok (.getfield 23, 3) := by decide +kernel
theorem dX11_daysTillNothing_38 : decode cX11_daysTillNothing 38 = .ok (.aload_n 0, 1) := by decide +kernel
theorem dX11_daysTillNothing_39 : decode cX11_daysTillNothing 39 = .ok (.getfield 39, 3) := by decide +kernel
theorem dX11_daysTillNothing_42 : decode cX11_daysTillNothing 42 = .ok (.iload_n 1, 1) := by decide +kernel
theorem dX11_daysTillNothing_43 : decode cX11_daysTillNothing 43 = .ok (.invokevirtual 264, 3) := by decide +kernel
theorem dX11_daysTillNothing_46 : decode cX11_daysTillNothing 46 = .ok (.aload_n 0, 1) := by decide +kernel
theorem dX11_daysTillNothing_47 : decode cX11_daysTillNothing 47 = .ok (.getfield 39, 3) := by decide +kernel
theorem dX11_daysTillNothing_50 : decode cX11_daysTillNothing 50 = .ok (.dup, 1) := by decide +kernel
theorem dX11_daysTillNothing_51 : decode cX11_daysTillNothing 51 = .ok (.getfield 161, 3) := by decide +kernel
theorem dX11_daysTillNothing_54 : decode cX11_daysTillNothing 54 = .ok (.iconst 1, 1) := by decide +kernel
theorem dX11_daysTillNothing_55 : decode cX11_daysTillNothing 55 = .ok (.iadd, 1) := by decide +kernel
theorem dX11_daysTillNothing_56 : decode cX11_daysTillNothing 56 = .ok (.putfield 161, 3) := by decide +kernel
theorem dX11_daysTillNothing_59 : decode cX11_daysTillNothing 59 = .ok (.iinc 3 1, 3) := by decide +kernel
theorem dX11_daysTillNothing_62 : decode cX11_daysTillNothing 62 = .ok (.goto (-49), 3) := by decide +kernel
theorem dX11_daysTillNothing_65 : decode cX11_daysTillNothing 65 = .ok (.bipush (-2), 2) := by decide +kernel
theorem dX11_daysTillNothing_67 : decode cX11_daysTillNothing 67 = .ok (.ireturn, 1) := by decide +kernel
theorem dX11_cold_0 : decode cX11_cold 0 = .ok (.aload_n 0, 1) := by decide +kernel
theorem dX11_cold_1 : decode cX11_cold 1 = .ok (.iload_n 1, 1) := by decide +kernel
theorem dX11_cold_2 : decode cX11_cold 2 = .ok (.invokevirtual 130, 3) := by decide +kernel
theorem dX11_cold_5 : decode cX11_cold 5 = .ok (.ifCond .eq 12, 3) := by decide +kernel
theorem dX11_cold_8 : decode cX11_cold 8 = .ok (.aload_n 0, 1) := by decide +kernel
theorem dX11_cold_9 : decode cX11_cold 9 = .ok (.iload_n 1, 1) := by decide +kernel
theorem dX11_cold_10 : decode cX11_cold 10 = .ok (.iconst 2, 1) := by decide +kernel
theorem dX11_cold_11 : decode cX11_cold 11 = .ok (.invokevirtual 261, 3) := by decide +kernel
theorem dX11_cold_14 : decode cX11_cold 14 = .ok (.goto 4, 3) := by decide +kernel
theorem dX11_cold_17 : decode cX11_cold 17 = .ok (.iconst (-1), 1) := by decide +kernel
theorem dX11_cold_18 : decode cX11_cold 18 = .ok (.ireturn, 1) := by decide +kernel
theorem dX7_sumOf_0 : decode cX7_sumOf 0 = .ok (.iconst 0, 1) := by decide +kernel
theorem dX7_sumOf_1 : decode cX7_sumOf 1 = .ok (.istore_n 2, 1) := by decide +kernel
theorem dX7_sumOf_2 : decode cX7_sumOf 2 = .ok (.iconst 0, 1) := by decide +kernel
theorem dX7_sumOf_3 : decode cX7_sumOf 3 = .ok (.istore_n 3, 1) := by decide +kernel
theorem dX7_sumOf_4 : decode cX7_sumOf 4 = .ok (.iload_n 3, 1) := by decide +kernel
theorem dX7_sumOf_5 : decode cX7_sumOf 5 = .ok (.bipush 6, 2) := by decide +kernel
theorem dX7_sumOf_7 : decode cX7_sumOf 7 = .ok (.if_icmp .ge 18, 3) := by decide +kernel
theorem dX7_sumOf_10 : decode cX7_sumOf 10 = .ok (.iload_n 2, 1) := by decide +kernel
theorem dX7_sumOf_11 : decode cX7_sumOf 11 = .ok (.aload_n 0, 1) := by decide +kernel
theorem dX7_sumOf_12 : decode cX7_sumOf 12 = .ok (.iload_n 3, 1) := by decide +kernel
theorem dX7_sumOf_13 : decode cX7_sumOf 13 = .ok (.iload_n 1, 1) := by decide +kernel
theorem dX7_sumOf_14 : decode cX7_sumOf 14 = .ok (.invokevirtual 34, 3) := by decide +kernel
theorem dX7_sumOf_17 : decode cX7_sumOf 17 = .ok (.iadd, 1) := by decide +kernel
theorem dX7_sumOf_18 : decode cX7_sumOf 18 = .ok (.istore_n 2, 1) := by decide +kernel
theorem dX7_sumOf_19 : decode cX7_sumOf 19 = .ok (.iinc 3 1, 3) := by decide +kernel
theorem dX7_sumOf_22 : decode cX7_sumOf 22 = .ok (.goto (-18), 3) := by decide +kernel
theorem dX7_sumOf_25 : decode cX7_sumOf 25 = .ok (.iload_n 2, 1) := by decide +kernel
theorem dX7_sumOf_26 : decode cX7_sumOf 26 = .ok (.ireturn, 1) := by decide +kernel
theorem dX7_bitsOf_0 : decode cX7_bitsOf 0 = .ok (.iconst 0, 1) := by decide +kernel
theorem dX7_bitsOf_1 : decode cX7_bitsOf 1 = .ok (.istore 4, 2) := by decide +kernel
theorem dX7_bitsOf_3 : decode cX7_bitsOf 3 = .ok (.iconst 0, 1) := by decide +kernel
theorem dX7_bitsOf_4 : decode cX7_bitsOf 4 = .ok (.istore 5, 2) := by decide +kernel
theorem dX7_bitsOf_6 : decode cX7_bitsOf 6 = .ok (.iload 5, 2) := by decide +kernel
theorem dX7_bitsOf_8 : decode cX7_bitsOf 8 = .ok (.iload_n 3, 1) := by decide +kernel
theorem dX7_bitsOf_9 : decode cX7_bitsOf 9 = .ok (.if_icmp .ge 29, 3) := by decide +kernel
theorem dX7_bitsOf_12 : decode cX7_bitsOf 12 = .ok (.aload_n 0, 1) := by decide +kernel
theorem dX7_bitsOf_13 : decode cX7_bitsOf 13 = .ok (.iload 5, 2) := by decide +kernel
theorem dX7_bitsOf_15 : decode cX7_bitsOf 15 = .ok (.iload_n 1, 1) := by decide +kernel
theorem dX7_bitsOf_16 : decode cX7_bitsOf 16 = .ok (.invokevirtual 34, 3) := by decide +kernel
theorem dX7_bitsOf_19 : decode cX7_bitsOf 19 = .ok (.iload_n 2, 1) := by decide +kernel
theorem dX7_bitsOf_20 : decode cX7_bitsOf 20 = .ok (.if_icmp .ne 12, 3) := by decide +kernel
theorem dX7_bitsOf_23 : decode cX7_bitsOf 23 = .ok (.iload 4, 2) := by decide +kernel
theorem dX7_bitsOf_25 : decode cX7_bitsOf 25 = .ok (.iconst 1, 1) := by decide +kernel
theorem dX7_bitsOf_26 : decode cX7_bitsOf 26 = .ok (.iload 5, 2) := by decide +kernel
theorem dX7_bitsOf_28 : decode cX7_bitsOf 28 = .ok (.ishl, 1) := by decide +kernel
theorem dX7_bitsOf_29 : decode cX7_bitsOf 29 = .ok (.ior, 1) := by decide +kernel
theorem dX7_bitsOf_30 : decode cX7_bitsOf 30 = .ok (.istore 4, 2) := by decide +kernel
theorem dX7_bitsOf_32 : decode cX7_bitsOf 32 = .ok (.iinc 5 1, 3) := by decide +kernel
theorem dX7_bitsOf_35 : decode cX7_bitsOf 35 = .ok (.goto (-29), 3) := by decide +kernel
theorem dX7_bitsOf_38 : decode cX7_bitsOf 38 = .ok (.iload 4, 2) := by decide +kernel
theorem dX7_bitsOf_40 : decode cX7_bitsOf 40 = .ok (.ireturn, 1) := by decide +kernel
theorem dX3_mixed_0 : decode cX3_mixed 0 = .ok (.iload_n 0, 1) := by decide +kernel
theorem dX3_mixed_1 : decode cX3_mixed 1 = .ok (.iload_n 1, 1) := by decide +kernel
theorem dX3_mixed_2 : decode cX3_mixed 2 = .ok (.ixor, 1) := by decide +kernel
theorem dX3_mixed_3 : decode cX3_mixed 3 = .ok (.ldc 131, 2) := by decide +kernel
theorem dX3_mixed_5 : decode cX3_mixed 5 = .ok (.imul, 1) := by decide +kernel
theorem dX3_mixed_6 : decode cX3_mixed 6 = .ok (.sipush 12345, 3) := by decide +kernel
theorem dX3_mixed_9 : decode cX3_mixed 9 = .ok (.iadd, 1) := by decide +kernel
theorem dX3_mixed_10 : decode cX3_mixed 10 = .ok (.istore_n 2, 1) := by decide +kernel
theorem dX3_mixed_11 : decode cX3_mixed 11 = .ok (.iload_n 2, 1) := by decide +kernel
theorem dX3_mixed_12 : decode cX3_mixed 12 = .ok (.iload_n 2, 1) := by decide +kernel
theorem dX3_mixed_13 : decode cX3_mixed 13 = .ok (.bipush 15, 2) := by decide +kernel
theorem dX3_mixed_15 : decode cX3_mixed 15 = .ok (.iushr, 1) := by decide +kernel
theorem dX3_mixed_16 : decode cX3_mixed 16 = .ok (.ixor, 1) := by decide +kernel
theorem dX3_mixed_17 : decode cX3_mixed 17 = .ok (.ireturn, 1) := by decide +kernel
theorem dX3_lot_0 : decode cX3_lot 0 = .ok (.iload_n 1, 1) := by decide +kernel
theorem dX3_lot_1 : decode cX3_lot 1 = .ok (.sipush 177, 3) := by decide +kernel
theorem dX3_lot_4 : decode cX3_lot 4 = .ok (.invokestatic 128, 3) := by decide +kernel
theorem dX3_lot_7 : decode cX3_lot 7 = .ok (.iload_n 2, 1) := by decide +kernel
theorem dX3_lot_8 : decode cX3_lot 8 = .ok (.invokestatic 128, 3) := by decide +kernel
theorem dX3_lot_11 : decode cX3_lot 11 = .ok (.istore_n 3, 1) := by decide +kernel
theorem dX3_lot_12 : decode cX3_lot 12 = .ok (.iload_n 0, 1) := by decide +kernel
theorem dX3_lot_13 : decode cX3_lot 13 = .ok (.ifCond .le 11, 3) := by decide +kernel
theorem dX3_lot_16 : decode cX3_lot 16 = .ok (.iload_n 3, 1) := by decide +kernel
theorem dX3_lot_17 : decode cX3_lot 17 = .ok (.iconst 1, 1) := by decide +kernel
theorem dX3_lot_18 : decode cX3_lot 18 = .ok (.iushr, 1) := by decide +kernel
theorem dX3_lot_19 : decode cX3_lot 19 = .ok (.iload_n 0, 1) := by decide +kernel
theorem dX3_lot_20 : decode cX3_lot 20 = .ok (.irem, 1) := by decide +kernel
theorem dX3_lot_21 : decode cX3_lot 21 = .ok (.goto 4, 3) := by decide +kernel
theorem dX3_lot_24 : decode cX3_lot 24 = .ok (.iconst 0, 1) := by decide +kernel
theorem dX3_lot_25 : decode cX3_lot 25 = .ok (.ireturn, 1) := by decide +kernel
theorem dX3_hails_0 : decode cX3_hails 0 = .ok (.bipush 100, 2) := by decide +kernel
theorem dX3_hails_2 : decode cX3_hails 2 = .ok (.iload_n 1, 1) := by decide +kernel
theorem dX3_hails_3 : decode cX3_hails 3 = .ok (.iconst 4, 1) := by decide +kernel
theorem dX3_hails_4 : decode cX3_hails 4 = .ok (.iload_n 2, 1) := by decide +kernel
theorem dX3_hails_5 : decode cX3_hails 5 = .ok (.imul, 1) := by decide +kernel
theorem dX3_hails_6 : decode cX3_hails 6 = .ok (.invokestatic 120, 3) := by decide +kernel
theorem dX3_hails_9 : decode cX3_hails 9 = .ok (.aload_n 0, 1) := by decide +kernel
theorem dX3_hails_10 : decode cX3_hails 10 = .ok (.getfield 36, 3) := by decide +kernel
theorem dX3_hails_13 : decode cX3_hails 13 = .ok (.if_icmp .ge 7, 3) := by decide +kernel
theorem dX3_hails_16 : decode cX3_hails 16 = .ok (.iconst 1, 1) := by decide +kernel
theorem dX3_hails_17 : decode cX3_hails 17 = .ok (.goto 4, 3) := by decide +kernel
theorem dX3_hails_20 : decode cX3_hails 20 = .ok (.iconst 0, 1) := by decide +kernel
theorem dX3_hails_21 : decode cX3_hails 21 = .ok (.ireturn, 1) := by decide +kernel
theorem dX11_lossOfAll_0 : decode cX11_lossOfAll 0 = .ok (.iconst 0, 1) := by decide +kernel
theorem dX11_lossOfAll_1 : decode cX11_lossOfAll 1 = .ok (.istore_n 1, 1) := by decide +kernel
theorem dX11_lossOfAll_2 : decode cX11_lossOfAll 2 = .ok (.iconst 0, 1) := by decide +kernel
theorem dX11_lossOfAll_3 : decode cX11_lossOfAll 3 = .ok (.istore_n 2, 1) := by decide +kernel
theorem dX11_lossOfAll_4 : decode cX11_lossOfAll 4 = .ok (.iload_n 2, 1) := by decide +kernel
theorem dX11_lossOfAll_5 : decode cX11_lossOfAll 5 = .ok (.aload_n 0, 1) := by decide +kernel
theorem dX11_lossOfAll_6 : decode cX11_lossOfAll 6 = .ok (.getfield 23, 3) := by decide +kernel
theorem dX11_lossOfAll_9 : decode cX11_lossOfAll 9 = .ok (.getfield 158, 3) := by decide +kernel
theorem dX11_lossOfAll_12 : decode cX11_lossOfAll 12 = .ok (.if_icmp .ge 24, 3) := by decide +kernel
theorem dX11_lossOfAll_15 : decode cX11_lossOfAll 15 = .ok (.iload_n 1, 1) := by decide +kernel
theorem dX11_lossOfAll_16 : decode cX11_lossOfAll 16 = .ok (.aload_n 0, 1) := by decide +kernel
theorem dX11_lossOfAll_17 : decode cX11_lossOfAll 17 = .ok (.getfield 23, 3) := by decide +kernel
theorem dX11_lossOfAll_20 : decode cX11_lossOfAll 20 = .ok (.aload_n 0, 1) := by decide +kernel
theorem dX11_lossOfAll_21 : decode cX11_lossOfAll 21 = .ok (.getfield 30, 3) := by decide +kernel
theorem dX11_lossOfAll_24 : decode cX11_lossOfAll 24 = .ok (.iload_n 2, 1) := by decide +kernel
theorem dX11_lossOfAll_25 : decode cX11_lossOfAll 25 = .ok (.invokevirtual 145, 3) := by decide +kernel
theorem dX11_lossOfAll_28 : decode cX11_lossOfAll 28 = .ok (.iadd, 1) := by decide +kernel
theorem dX11_lossOfAll_29 : decode cX11_lossOfAll 29 = .ok (.istore_n 1, 1) := by decide +kernel
theorem dX11_lossOfAll_30 : decode cX11_lossOfAll 30 = .ok (.iinc 2 1, 3) := by decide +kernel
theorem dX11_lossOfAll_33 : decode cX11_lossOfAll 33 = .ok (.goto (-29), 3) := by decide +kernel
theorem dX11_lossOfAll_36 : decode cX11_lossOfAll 36 = .ok (.iload_n 1, 1) := by decide +kernel
theorem dX11_lossOfAll_37 : decode cX11_lossOfAll 37 = .ok (.ireturn, 1) := by decide +kernel
theorem dX11_count_0 : decode cX11_count 0 = .ok (.iload_n 1, 1) := by decide +kernel
theorem dX11_count_1 : decode cX11_count 1 = .ok (.tableswitch 304 0 19 #[95, 103, 111, 119, 128, 137, 146, 163, 180, 185, 193, 201, 209, 239, 244, 252, 261, 269, 286, 294], 95) := by decide +kernel
theorem dX11_count_96 : decode cX11_count 96 = .ok (.aload_n 0, 1) := by decide +kernel
theorem dX11_count_97 : decode cX11_count 97 = .ok (.getfield 23, 3) := by decide +kernel
theorem dX11_count_100 : decode cX11_count 100 = .ok (.getfield 158, 3) := by decide +kernel
theorem dX11_count_103 : decode cX11_count 103 = .ok (.ireturn, 1) := by decide +kernel
theorem dX11_count_104 : decode cX11_count 104 = .ok (.aload_n 0, 1) := by decide +kernel
theorem dX11_count_105 : decode cX11_count 105 = .ok (.getfield 30, 3) := by decide +kernel
theorem dX11_count_108 : decode cX11_count 108 = .ok (.getfield 161, 3) := by decide +kernel
theorem dX11_count_111 : decode cX11_count 111 = .ok (.ireturn, 1) := by decide +kernel
theorem dX11_count_112 : decode cX11_count 112 = .ok (.aload_n 0, 1) := by decide +kernel
theorem dX11_count_113 : decode cX11_count 113 = .ok (.getfield 30, 3) := by decide +kernel
theorem dX11_count_116 : decode cX11_count 116 = .ok (.getfield 38, 3) := by decide +kernel
theorem dX11_count_119 : decode cX11_count 119 = .ok (.ireturn, 1) := by decide +kernel
theorem dX11_count_120 : decode cX11_count 120 = .ok (.aload_n 0, 1) := by decide +kernel
theorem dX11_count_121 : decode cX11_count 121 = .ok (.getfield 30, 3) := by decide +kernel
theorem dX11_count_124 : decode cX11_count 124 = .ok (.iconst 3, 1) := by decide +kernel
theorem dX11_count_125 : decode cX11_count 125 = .ok (.invokevirtual 164, 3) := by decide +kernel
theorem dX11_count_128 : decode cX11_count 128 = .ok (.ireturn, 1) := by decide +kernel
theorem dX11_count_129 : decode cX11_count 129 = .ok (.aload_n 0, 1) := by decide +kernel
theorem dX11_count_130 : decode cX11_count 130 = .ok (.getfield 30, 3) := by decide +kernel
theorem dX11_count_133 : decode cX11_count 133 = .ok (.iconst 2, 1) := by decide +kernel
theorem dX11_count_134 : decode cX11_count 134 = .ok (.invokevirtual 164, 3) := by decide +kernel
theorem dX11_count_137 : decode cX11_count 137 = .ok (.ireturn, 1) := by decide +kernel
theorem dX11_count_138 : decode cX11_count 138 = .ok (.aload_n 0, 1) := by decide +kernel
theorem dX11_count_139 : decode cX11_count 139 = .ok (.getfield 30, 3) := by decide +kernel
theorem dX11_count_142 : decode cX11_count 142 = .ok (.iconst 1, 1) := by decide +kernel
theorem dX11_count_143 : decode cX11_count 143 = .ok (.invokevirtual 164, 3) := by decide +kernel
theorem dX11_count_146 : decode cX11_count 146 = .ok (.ireturn, 1) := by decide +kernel
theorem dX11_count_147 : decode cX11_count 147 = .ok (.aload_n 0, 1) := by decide +kernel
theorem dX11_count_148 : decode cX11_count 148 = .ok (.getfield 30, 3) := by decide +kernel
theorem dX11_count_151 : decode cX11_count 151 = .ok (.iconst 4, 1) := by decide +kernel
theorem dX11_count_152 : decode cX11_count 152 = .ok (.iconst 1, 1) := by decide +kernel
theorem dX11_count_153 : decode cX11_count 153 = .ok (.aload_n 0, 1) := by decide +kernel
theorem dX11_count_154 : decode cX11_count 154 = .ok (.getfield 23, 3) := by decide +kernel
theorem dX11_count_157 : decode cX11_count 157 = .ok (.getfield 158, 3) := by decide +kernel
theorem dX11_count_160 : decode cX11_count 160 = .ok (.invokevirtual 167, 3) := by decide +kernel
theorem dX11_count_163 : decode cX11_count 163 = .ok (.ireturn, 1) := by decide +kernel
theorem dX11_count_164 : decode cX11_count 164 = .ok (.aload_n 0, 1) := by decide +kernel
theorem dX11_count_165 : decode cX11_count 165 = .ok (.getfield 30, 3) := by decide +kernel
theorem dX11_count_168 : decode cX11_count 168 = .ok (.iconst 3, 1) := by decide +kernel
theorem dX11_count_169 : decode cX11_count 169 = .ok (.iconst 0, 1) := by decide +kernel
theorem dX11_count_170 : decode cX11_count 170 = .ok (.aload_n 0, 1) := by decide +kernel
theorem dX11_count_171 : decode cX11_count 171 = .ok (.getfield 23, 3) := by decide +kernel
theorem dX11_count_174 : decode cX11_count 174 = .ok (.getfield 158, 3) := by decide +kernel
theorem dX11_count_177 : decode cX11_count 177 = .ok (.invokevirtual 167, 3) := by decide +kernel
theorem dX11_count_180 : decode cX11_count 180 = .ok (.ireturn, 1) := by decide +kernel
theorem dX11_count_181 : decode cX11_count 181 = .ok (.aload_n 0, 1) := by decide +kernel
theorem dX11_count_182 : decode cX11_count 182 = .ok (.getfield 99, 3) := by decide +kernel
theorem dX11_count_185 : decode cX11_count 185 = .ok (.ireturn, 1) := by decide +kernel
theorem dX11_count_186 : decode cX11_count 186 = .ok (.aload_n 0, 1) := by decide +kernel
theorem dX11_count_187 : decode cX11_count 187 = .ok (.getfield 48, 3) := by decide +kernel
theorem dX11_count_190 : decode cX11_count 190 = .ok (.getfield 171, 3) := by decide +kernel
theorem dX11_count_193 : decode cX11_count 193 = .ok (.ireturn, 1) := by decide +kernel
theorem dX11_count_194 : decode cX11_count 194 = .ok (.aload_n 0, 1) := by decide +kernel
theorem dX11_count_195 : decode cX11_count 195 = .ok (.getfield 91, 3) := by decide +kernel
theorem dX11_count_198 : decode cX11_count 198 = .ok (.getfield 127, 3) := by decide +kernel
theorem dX11_count_201 : decode cX11_count 201 = .ok (.ireturn, 1) := by decide +kernel
theorem dX11_count_202 : decode cX11_count 202 = .ok (.aload_n 0, 1) := by decide +kernel
theorem dX11_count_203 : decode cX11_count 203 = .ok (.getfield 48, 3) := by decide +kernel
theorem dX11_count_206 : decode cX11_count 206 = .ok (.invokevirtual 174, 3) := by decide +kernel
theorem dX11_count_209 : decode cX11_count 209 = .ok (.ireturn, 1) := by decide +kernel
theorem dX11_count_210 : decode cX11_count 210 = .ok (.aload_n 0, 1) := by decide +kernel
theorem dX11_count_211 : decode cX11_count 211 = .ok (.getfield 23, 3) := by decide +kernel
theorem dX11_count_214 : decode cX11_count 214 = .ok (.aload_n 0, 1) := by decide +kernel
theorem dX11_count_215 : decode cX11_count 215 = .ok (.getfield 23, 3) := by decide +kernel
theorem dX11_count_218 : decode cX11_count 218 = .ok (.getfield 178, 3) := by decide +kernel
theorem dX11_count_221 : decode cX11_count 221 = .ok (.aload_n 0, 1) := by decide +kernel
theorem dX11_count_222 : decode cX11_count 222 = .ok (.getfield 30, 3) := by decide +kernel
theorem dX11_count_225 : decode cX11_count 225 = .ok (.getfield 161, 3) := by decide +kernel
theorem dX11_count_228 : decode cX11_count 228 = .ok (.invokevirtual 181, 3) := by decide +kernel
theorem dX11_count_231 : decode cX11_count 231 = .ok (.ifCond .eq 7, 3) := by decide +kernel
theorem dX11_count_234 : decode cX11_count 234 = .ok (.iconst 1, 1) := by decide +kernel
theorem dX11_count_235 : decode cX11_count 235 = .ok (.goto 4, 3) := by decide +kernel
theorem dX11_count_238 : decode cX11_count 238 = .ok (.iconst 0, 1) := by decide +kernel
theorem dX11_count_239 : decode cX11_count 239 = .ok (.ireturn, 1) := by decide +kernel
theorem dX11_count_240 : decode cX11_count 240 = .ok (.aload_n 0, 1) := by decide +kernel
theorem dX11_count_241 : decode cX11_count 241 = .ok (.invokevirtual 185, 3) := by decide +kernel
theorem dX11_count_244 : decode cX11_count 244 = .ok (.ireturn, 1) := by decide +kernel
theorem dX11_count_245 : decode cX11_count 245 = .ok (.aload_n 0, 1) := by decide +kernel
theorem dX11_count_246 : decode cX11_count 246 = .ok (.getfield 30, 3) := by decide +kernel
theorem dX11_count_249 : decode cX11_count 249 = .ok (.getfield 188, 3) := by decide +kernel
theorem dX11_count_252 : decode cX11_count 252 = .ok (.ireturn, 1) := by decide +kernel
theorem dX11_count_253 : decode cX11_count 253 = .ok (.aload_n 0, 1) := by decide +kernel
theorem dX11_count_254 : decode cX11_count 254 = .ok (.getfield 30, 3) := by decide +kernel
theorem dX11_count_257 : decode cX11_count 257 = .ok (.iconst 0, 1) := by decide +kernel
theorem dX11_count_258 : decode cX11_count 258 = .ok (.invokevirtual 164, 3) := by decide +kernel
theorem dX11_count_261 : decode cX11_count 261 = .ok (.ireturn, 1) := by decide +kernel
theorem dX11_count_262 : decode cX11_count 262 = .ok (.aload_n 0, 1) := by decide +kernel
theorem dX11_count_263 : decode cX11_count 263 = .ok (.getfield 30, 3) := by decide +kernel
theorem dX11_count_266 : decode cX11_count 266 = .ok (.getfield 191, 3) := by decide +kernel
theorem dX11_count_269 : decode cX11_count 269 = .ok (.ireturn, 1) := by decide +kernel
theorem dX11_count_270 : decode cX11_count 270 = .ok (.aload_n 0, 1) := by decide +kernel
theorem dX11_count_271 : decode cX11_count 271 = .ok (.getfield 30, 3) := by decide +kernel
theorem dX11_count_274 : decode cX11_count 274 = .ok (.iconst 2, 1) := by decide +kernel
theorem dX11_count_275 : decode cX11_count 275 = .ok (.iconst 0, 1) := by decide +kernel
theorem dX11_count_276 : decode cX11_count 276 = .ok (.aload_n 0, 1) := by decide +kernel
theorem dX11_count_277 : decode cX11_count 277 = .ok (.getfield 23, 3) := by decide +kernel
theorem dX11_count_280 : decode cX11_count 280 = .ok (.getfield 158, 3) := by decide +kernel
theorem dX11_count_283 : decode cX11_count 283 = .ok (.invokevirtual 167, 3) := by decide +kernel
theorem dX11_count_286 : decode cX11_count 286 = .ok (.ireturn, 1) := by decide +kernel
theorem dX11_count_287 : decode cX11_count 287 = .ok (.aload_n 0, 1) := by decide +kernel
theorem dX11_count_288 : decode cX11_count 288 = .ok (.getfield 23, 3) := by decide +kernel
theorem dX11_count_291 : decode cX11_count 291 = .ok (.getfield 194, 3) := by decide +kernel
theorem dX11_count_294 : decode cX11_count 294 = .ok (.ireturn, 1) := by decide +kernel
theorem dX11_count_295 : decode cX11_count 295 = .ok (.aload_n 0, 1) := by decide +kernel
theorem dX11_count_296 : decode cX11_count 296 = .ok (.getfield 30, 3) := by decide +kernel
theorem dX11_count_299 : decode cX11_count 299 = .ok (.bipush 6, 2) := by decide +kernel
theorem dX11_count_301 : decode cX11_count 301 = .ok (.invokevirtual 164, 3) := by decide +kernel
theorem dX11_count_304 : decode cX11_count 304 = .ok (.ireturn, 1) := by decide +kernel
theorem dX11_count_305 : decode cX11_count 305 = .ok (.iconst (-1), 1) := by decide +kernel
theorem dX11_count_306 : decode cX11_count 306 = .ok (.ireturn, 1) := by decide +kernel
theorem dX11_cut_0 : decode cX11_cut 0 = .ok (.aload_n 0, 1) := by decide +kernel
theorem dX11_cut_1 : decode cX11_cut 1 = .ok (.iload_n 1, 1) := by decide +kernel
theorem dX11_cut_2 : decode cX11_cut 2 = .ok (.invokevirtual 130, 3) := by decide +kernel
theorem dX11_cut_5 : decode cX11_cut 5 = .ok (.ifCond .eq 16, 3) := by decide +kernel
theorem dX11_cut_8 : decode cX11_cut 8 = .ok (.aload_n 0, 1) := by decide +kernel
theorem dX11_cut_9 : decode cX11_cut 9 = .ok (.iload_n 2, 1) := by decide +kernel
theorem dX11_cut_10 : decode cX11_cut 10 = .ok (.invokevirtual 130, 3) := by decide +kernel
theorem dX11_cut_13 : decode cX11_cut 13 = .ok (.ifCond .eq 8, 3) := by decide +kernel
theorem dX11_cut_16 : decode cX11_cut 16 = .ok (.iload_n 1, 1) := by decide +kernel
theorem dX11_cut_17 : decode cX11_cut 17 = .ok (.iload_n 2, 1) := by decide +kernel
theorem dX11_cut_18 : decode cX11_cut 18 = .ok (.if_icmp .ne 5, 3) := by decide +kernel
theorem dX11_cut_21 : decode cX11_cut 21 = .ok (.iconst (-1), 1) := by decide +kernel
theorem dX11_cut_22 : decode cX11_cut 22 = .ok (.ireturn, 1) := by decide +kernel
theorem dX11_cut_23 : decode cX11_cut 23 = .ok (.aload_n 0, 1) := by decide +kernel
theorem dX11_cut_24 : decode cX11_cut 24 = .ok (.getfield 48, 3) := by decide +kernel
theorem dX11_cut_27 : decode cX11_cut 27 = .ok (.aload_n 0, 1) := by decide +kernel
theorem dX11_cut_28 : decode cX11_cut 28 = .ok (.getfield 30, 3) := by decide +kernel
theorem dX11_cut_31 : decode cX11_cut 31 = .ok (.invokevirtual 197, 3) := by decide +kernel
theorem dX11_cut_34 : decode cX11_cut 34 = .ok (.aload_n 0, 1) := by decide +kernel
theorem dX11_cut_35 : decode cX11_cut 35 = .ok (.getfield 30, 3) := by decide +kernel
theorem dX11_cut_38 : decode cX11_cut 38 = .ok (.iload_n 1, 1) := by decide +kernel
theorem dX11_cut_39 : decode cX11_cut 39 = .ok (.iconst 3, 1) := by decide +kernel
theorem dX11_cut_40 : decode cX11_cut 40 = .ok (.invokevirtual 134, 3) := by decide +kernel
theorem dX11_cut_43 : decode cX11_cut 43 = .ok (.istore_n 3, 1) := by decide +kernel
theorem dX11_cut_44 : decode cX11_cut 44 = .ok (.iload_n 3, 1) := by decide +kernel
theorem dX11_cut_45 : decode cX11_cut 45 = .ok (.bipush 10, 2) := by decide +kernel
theorem dX11_cut_47 : decode cX11_cut 47 = .ok (.idiv, 1) := by decide +kernel
theorem dX11_cut_48 : decode cX11_cut 48 = .ok (.istore 4, 2) := by decide +kernel
theorem dX11_cut_50 : decode cX11_cut 50 = .ok (.aload_n 0, 1) := by decide +kernel
theorem dX11_cut_51 : decode cX11_cut 51 = .ok (.getfield 30, 3) := by decide +kernel
theorem dX11_cut_54 : decode cX11_cut 54 = .ok (.iload_n 1, 1) := by decide +kernel
theorem dX11_cut_55 : decode cX11_cut 55 = .ok (.iconst 3, 1) := by decide +kernel
theorem dX11_cut_56 : decode cX11_cut 56 = .ok (.iload_n 3, 1) := by decide +kernel
theorem dX11_cut_57 : decode cX11_cut 57 = .ok (.iload 4, 2) := by decide +kernel
theorem dX11_cut_59 : decode cX11_cut 59 = .ok (.isub, 1) := by decide +kernel
theorem dX11_cut_60 : decode cX11_cut 60 = .ok (.invokevirtual 204, 3) := by decide +kernel
theorem dX11_cut_63 : decode cX11_cut 63 = .ok (.aload_n 0, 1) := by decide +kernel
theorem dX11_cut_64 : decode cX11_cut 64 = .ok (.getfield 30, 3) := by decide +kernel
theorem dX11_cut_67 : decode cX11_cut 67 = .ok (.iload_n 2, 1) := by decide +kernel
theorem dX11_cut_68 : decode cX11_cut 68 = .ok (.iconst 3, 1) := by decide +kernel
theorem dX11_cut_69 : decode cX11_cut 69 = .ok (.sipush 999, 3) := by decide +kernel
theorem dX11_cut_72 : decode cX11_cut 72 = .ok (.aload_n 0, 1) := by decide +kernel
theorem dX11_cut_73 : decode cX11_cut 73 = .ok (.getfield 30, 3) := by decide +kernel
theorem dX11_cut_76 : decode cX11_cut 76 = .ok (.iload_n 2, 1) := by decide +kernel
theorem dX11_cut_77 : decode cX11_cut 77 = .ok (.iconst 3, 1) := by decide +kernel
theorem dX11_cut_78 : decode cX11_cut 78 = .ok (.invokevirtual 134, 3) := by decide +kernel
theorem dX11_cut_81 : decode cX11_cut 81 = .ok (.iload 4, 2) := by decide +kernel
theorem dX11_cut_83 : decode cX11_cut 83 = .ok (.iadd, 1) := by decide +kernel
theorem dX11_cut_84 : decode cX11_cut 84 = .ok (.invokestatic 208, 3) := by decide +kernel
theorem dX11_cut_87 : decode cX11_cut 87 = .ok (.invokevirtual 204, 3) := by decide +kernel
theorem dX11_cut_90 : decode cX11_cut 90 = .ok (.aload_n 0, 1) := by decide +kernel
theorem dX11_cut_91 : decode cX11_cut 91 = .ok (.getfield 30, 3) := by decide +kernel
theorem dX11_cut_94 : decode cX11_cut 94 = .ok (.iload_n 2, 1) := by decide +kernel
theorem dX11_cut_95 : decode cX11_cut 95 = .ok (.iconst 5, 1) := by decide +kernel
theorem dX11_cut_96 : decode cX11_cut 96 = .ok (.aload_n 0, 1) := by decide +kernel
theorem dX11_cut_97 : decode cX11_cut 97 = .ok (.getfield 30, 3) := by decide +kernel
theorem dX11_cut_100 : decode cX11_cut 100 = .ok (.iload_n 2, 1) := by decide +kernel
theorem dX11_cut_101 : decode cX11_cut 101 = .ok (.iconst 5, 1) := by decide +kernel
theorem dX11_cut_102 : decode cX11_cut 102 = .ok (.invokevirtual 134, 3) := by decide +kernel
theorem dX11_cut_105 : decode cX11_cut 105 = .ok (.iconst 1, 1) := by decide +kernel
theorem dX11_cut_106 : decode cX11_cut 106 = .ok (.iadd, 1) := by decide +kernel
theorem dX11_cut_107 : decode cX11_cut 107 = .ok (.invokevirtual 204, 3) := by decide +kernel
theorem dX11_cut_110 : decode cX11_cut 110 = .ok (.aload_n 0, 1) := by decide +kernel
theorem dX11_cut_111 : decode cX11_cut 111 = .ok (.getfield 30, 3) := by decide +kernel
theorem dX11_cut_114 : decode cX11_cut 114 = .ok (.dup, 1) := by decide +kernel
theorem dX11_cut_115 : decode cX11_cut 115 = .ok (.getfield 191, 3) := by decide +kernel
theorem dX11_cut_118 : decode cX11_cut 118 = .ok (.iconst 1, 1) := by decide +kernel
theorem dX11_cut_119 : decode cX11_cut 119 = .ok (.iadd, 1) := by decide +kernel
theorem dX11_cut_120 : decode cX11_cut 120 = .ok (.putfield 191, 3) := by decide +kernel
theorem dX11_cut_123 : decode cX11_cut 123 = .ok (.iload 4, 2) := by decide +kernel
theorem dX11_cut_125 : decode cX11_cut 125 = .ok (.ireturn, 1) := by decide +kernel
theorem dX3_passDay_0 : decode cX3_passDay 0 = .ok (.iconst 0, 1) := by decide +kernel
theorem dX3_passDay_1 : decode cX3_passDay 1 = .ok (.istore_n 2, 1) := by decide +kernel
theorem dX3_passDay_2 : decode cX3_passDay 2 = .ok (.iload_n 2, 1) := by decide +kernel
theorem dX3_passDay_3 : decode cX3_passDay 3 = .ok (.aload_n 0, 1) := by decide +kernel
theorem dX3_passDay_4 : decode cX3_passDay 4 = .ok (.getfield 26, 3) := by decide +kernel
theorem dX3_passDay_7 : decode cX3_passDay 7 = .ok (.if_icmp .ge 15, 3) := by decide +kernel
theorem dX3_passDay_10 : decode cX3_passDay 10 = .ok (.aload_n 0, 1) := by decide +kernel
theorem dX3_passDay_11 : decode cX3_passDay 11 = .ok (.aload_n 1, 1) := by decide +kernel
theorem dX3_passDay_12 : decode cX3_passDay 12 = .ok (.iload_n 2, 1) := by decide +kernel
theorem dX3_passDay_13 : decode cX3_passDay 13 = .ok (.invokevirtual 110, 3) := by decide +kernel
theorem dX3_passDay_16 : decode cX3_passDay 16 = .ok (.iinc 2 1, 3) := by decide +kernel
theorem dX3_passDay_19 : decode cX3_passDay 19 = .ok (.goto (-17), 3) := by decide +kernel
theorem dX3_passDay_22 : decode cX3_passDay 22 = .ok (.return_, 1) := by decide +kernel
theorem dX3_struckHouse_0 : decode cX3_struckHouse 0 = .ok (.aload_n 0, 1) := by decide +kernel
theorem dX3_struckHouse_1 : decode cX3_struckHouse 1 = .ok (.getfield 26, 3) := by decide +kernel
theorem dX3_struckHouse_4 : decode cX3_struckHouse 4 = .ok (.ifCond .le 28, 3) := by decide +kernel
theorem dX3_struckHouse_7 : decode cX3_struckHouse 7 = .ok (.aload_n 0, 1) := by decide +kernel
theorem dX3_struckHouse_8 : decode cX3_struckHouse 8 = .ok (.iload_n 1, 1) := by decide +kernel
theorem dX3_struckHouse_9 : decode cX3_struckHouse 9 = .ok (.iload_n 2, 1) := by decide +kernel
theorem dX3_struckHouse_10 : decode cX3_struckHouse 10 = .ok (.invokevirtual 124, 3) := by decide +kernel
theorem dX3_struckHouse_13 : decode cX3_struckHouse 13 = .ok (.ifCond .eq 19, 3) := by decide +kernel
theorem dX3_struckHouse_16 : decode cX3_struckHouse 16 = .ok (.aload_n 0, 1) := by decide +kernel
theorem dX3_struckHouse_17 : decode cX3_struckHouse 17 = .ok (.getfield 26, 3) := by decide +kernel
theorem dX3_struckHouse_20 : decode cX3_struckHouse 20 = .ok (.iload_n 1, 1) := by decide +kernel
theorem dX3_struckHouse_21 : decode cX3_struckHouse 21 = .ok (.iconst 4, 1) := by decide +kernel
theorem dX3_struckHouse_22 : decode cX3_struckHouse 22 = .ok (.iload_n 2, 1) := by decide +kernel
theorem dX3_struckHouse_23 : decode cX3_struckHouse 23 = .ok (.imul, 1) := by decide +kernel
theorem dX3_struckHouse_24 : decode cX3_struckHouse 24 = .ok (.iconst 1, 1) := by decide +kernel
theorem dX3_struckHouse_25 : decode cX3_struckHouse 25 = .ok (.iadd, 1) := by decide +kernel
theorem dX3_struckHouse_26 : decode cX3_struckHouse 26 = .ok (.invokestatic 120, 3) := by decide +kernel
theorem dX3_struckHouse_29 : decode cX3_struckHouse 29 = .ok (.goto 4, 3) := by decide +kernel
theorem dX3_struckHouse_32 : decode cX3_struckHouse 32 = .ok (.iconst (-1), 1) := by decide +kernel
theorem dX3_struckHouse_33 : decode cX3_struckHouse 33 = .ok (.ireturn, 1) := by decide +kernel
theorem dX3_breakPane_0 : decode cX3_breakPane 0 = .ok (.aload_n 1, 1) := by decide +kernel
theorem dX3_breakPane_1 : decode cX3_breakPane 1 = .ok (.iload_n 2, 1) := by decide +kernel
theorem dX3_breakPane_2 : decode cX3_breakPane 2 = .ok (.iconst 1, 1) := by decide +kernel
theorem dX3_breakPane_3 : decode cX3_breakPane 3 = .ok (.invokevirtual 94, 3) := by decide +kernel
theorem dX3_breakPane_6 : decode cX3_breakPane 6 = .ok (.istore_n 3, 1) := by decide +kernel
theorem dX3_breakPane_7 : decode cX3_breakPane 7 = .ok (.iload_n 3, 1) := by decide +kernel
theorem dX3_breakPane_8 : decode cX3_breakPane 8 = .ok (.aload_n 1, 1) := by decide +kernel
theorem dX3_breakPane_9 : decode cX3_breakPane 9 = .ok (.iload_n 2, 1) := by decide +kernel
theorem dX3_breakPane_10 : decode cX3_breakPane 10 = .ok (.iconst 0, 1) := by decide +kernel
theorem dX3_breakPane_11 : decode cX3_breakPane 11 = .ok (.invokevirtual 94, 3) := by decide +kernel
theorem dX3_breakPane_14 : decode cX3_breakPane 14 = .ok (.if_icmp .ge 12, 3) := by decide +kernel
theorem dX3_breakPane_17 : decode cX3_breakPane 17 = .ok (.aload_n 1, 1) := by decide +kernel
theorem dX3_breakPane_18 : decode cX3_breakPane 18 = .ok (.iload_n 2, 1) := by decide +kernel
theorem dX3_breakPane_19 : decode cX3_breakPane 19 = .ok (.iconst 1, 1) := by decide +kernel
theorem dX3_breakPane_20 : decode cX3_breakPane 20 = .ok (.iload_n 3, 1) := by decide +kernel
theorem dX3_breakPane_21 : decode cX3_breakPane 21 = .ok (.iconst 1, 1) := by decide +kernel
theorem dX3_breakPane_22 : decode cX3_breakPane 22 = .ok (.iadd, 1) := by decide +kernel
theorem dX3_breakPane_23 : decode cX3_breakPane 23 = .ok (.invokevirtual 54, 3) := by decide +kernel
theorem dX3_breakPane_26 : decode cX3_breakPane 26 = .ok (.return_, 1) := by decide +kernel
theorem dX3_hailOn_0 : decode cX3_hailOn 0 = .ok (.aload_n 0, 1) := by decide +kernel
theorem dX3_hailOn_1 : decode cX3_hailOn 1 = .ok (.aload_n 0, 1) := by decide +kernel
theorem dX3_hailOn_2 : decode cX3_hailOn 2 = .ok (.getfield 39, 3) := by decide +kernel
theorem dX3_hailOn_5 : decode cX3_hailOn 5 = .ok (.aload_n 1, 1) := by decide +kernel
theorem dX3_hailOn_6 : decode cX3_hailOn 6 = .ok (.getfield 62, 3) := by decide +kernel
theorem dX3_hailOn_9 : decode cX3_hailOn 9 = .ok (.invokevirtual 114, 3) := by decide +kernel
theorem dX3_hailOn_12 : decode cX3_hailOn 12 = .ok (.istore_n 2, 1) := by decide +kernel
theorem dX3_hailOn_13 : decode cX3_hailOn 13 = .ok (.iload_n 2, 1) := by decide +kernel
theorem dX3_hailOn_14 : decode cX3_hailOn 14 = .ok (.iconst (-1), 1) := by decide +kernel
theorem dX3_hailOn_15 : decode cX3_hailOn 15 = .ok (.if_icmp .eq 9, 3) := by decide +kernel
theorem dX3_hailOn_18 : decode cX3_hailOn 18 = .ok (.aload_n 0, 1) := by decide +kernel
theorem dX3_hailOn_19 : decode cX3_hailOn 19 = .ok (.aload_n 1, 1) := by decide +kernel
theorem dX3_hailOn_20 : decode cX3_hailOn 20 = .ok (.iload_n 2, 1) := by decide +kernel
theorem dX3_hailOn_21 : decode cX3_hailOn 21 = .ok (.invokevirtual 117, 3) := by decide +kernel
theorem dX3_hailOn_24 : decode cX3_hailOn 24 = .ok (.return_, 1) := by decide +kernel
theorem dX11_days_0 : decode cX11_days 0 = .ok (.iload_n 1, 1) := by decide +kernel
theorem dX11_days_1 : decode cX11_days 1 = .ok (.ifCond .lt 9, 3) := by decide +kernel
theorem dX11_days_4 : decode cX11_days 4 = .ok (.iload_n 1, 1) := by decide +kernel
theorem dX11_days_5 : decode cX11_days 5 = .ok (.bipush 60, 2) := by decide +kernel
theorem dX11_days_7 : decode cX11_days 7 = .ok (.if_icmp .le 5, 3) := by decide +kernel
theorem dX11_days_10 : decode cX11_days 10 = .ok (.iconst (-1), 1) := by decide +kernel
theorem dX11_days_11 : decode cX11_days 11 = .ok (.ireturn, 1) := by decide +kernel
theorem dX11_days_12 : decode cX11_days 12 = .ok (.iload_n 1, 1) := by decide +kernel
theorem dX11_days_13 : decode cX11_days 13 = .ok (.ifCond .le 14, 3) := by decide +kernel
theorem dX11_days_16 : decode cX11_days 16 = .ok (.aload_n 0, 1) := by decide +kernel
theorem dX11_days_17 : decode cX11_days 17 = .ok (.getfield 48, 3) := by decide +kernel
theorem dX11_days_20 : decode cX11_days 20 = .ok (.aload_n 0, 1) := by decide +kernel
theorem dX11_days_21 : decode cX11_days 21 = .ok (.getfield 30, 3) := by decide +kernel
theorem dX11_days_24 : decode cX11_days 24 = .ok (.invokevirtual 197, 3) := by decide +kernel
theorem dX11_days_27 : decode cX11_days 27 = .ok (.iconst 0, 1) := by decide +kernel
theorem dX11_days_28 : decode cX11_days 28 = .ok (.istore_n 2, 1) := by decide +kernel
theorem dX11_days_29 : decode cX11_days 29 = .ok (.iload_n 2, 1) := by decide +kernel
theorem dX11_days_30 : decode cX11_days 30 = .ok (.iload_n 1, 1) := by decide +kernel
theorem dX11_days_31 : decode cX11_days 31 = .ok (.if_icmp .ge 44, 3) := by decide +kernel
theorem dX11_days_34 : decode cX11_days 34 = .ok (.aload_n 0, 1) := by decide +kernel
theorem dX11_days_35 : decode cX11_days 35 = .ok (.getfield 23, 3) := by decide +kernel
theorem dX11_days_38 : decode cX11_days 38 = .ok (.aload_n 0, 1) := by decide +kernel
theorem dX11_days_39 : decode cX11_days 39 = .ok (.getfield 30, 3) := by decide +kernel
theorem dX11_days_42 : decode cX11_days 42 = .ok (.invokevirtual 213, 3) := by decide +kernel
theorem dX11_days_45 : decode cX11_days 45 = .ok (.aload_n 0, 1) := by decide +kernel
theorem dX11_days_46 : decode cX11_days 46 = .ok (.getfield 23, 3) := by decide +kernel
theorem dX11_days_49 : decode cX11_days 49 = .ok (.aload_n 0, 1) := by decide +kernel
theorem dX11_days_50 : decode cX11_days 50 = .ok (.getfield 30, 3) := by decide +kernel
theorem dX11_days_53 : decode cX11_days 53 = .ok (.invokevirtual 216, 3) := by decide +kernel
theorem dX11_days_56 : decode cX11_days 56 = .ok (.aload_n 0, 1) := by decide +kernel
theorem dX11_days_57 : decode cX11_days 57 = .ok (.getfield 30, 3) := by decide +kernel
theorem dX11_days_60 : decode cX11_days 60 = .ok (.dup, 1) := by decide +kernel
theorem dX11_days_61 : decode cX11_days 61 = .ok (.getfield 161, 3) := by decide +kernel
theorem dX11_days_64 : decode cX11_days 64 = .ok (.iconst 1, 1) := by decide +kernel
theorem dX11_days_65 : decode cX11_days 65 = .ok (.iadd, 1) := by decide +kernel
theorem dX11_days_66 : decode cX11_days 66 = .ok (.putfield 161, 3) := by decide +kernel
theorem dX11_days_69 : decode cX11_days 69 = .ok (.iinc 2 1, 3) := by decide +kernel
theorem dX11_days_72 : decode cX11_days 72 = .ok (.goto (-43), 3) := by decide +kernel
theorem dX11_days_75 : decode cX11_days 75 = .ok (.aload_n 0, 1) := by decide +kernel
theorem dX11_days_76 : decode cX11_days 76 = .ok (.getfield 30, 3) := by decide +kernel
theorem dX11_days_79 : decode cX11_days 79 = .ok (.getfield 161, 3) := by decide +kernel
theorem dX11_days_82 : decode cX11_days 82 = .ok (.ireturn, 1) := by decide +kernel
section WK1
variable {p : Program} {l : Launch} {e : Env} {s : State} {m : MethodId} {args : Array Value} {below : List Frame} {meth : Method} {c : Code} {ω : WW}

set_option maxHeartbeats 4000000 in
set_option maxRecDepth 100000 in
theorem wX3_burnIn_s3 {q : Nat} {q1 : Nat} (hq : IsQ ω q) (hq1 : IsS ω q1) (C : Cx ω p s m args c cX3_burnIn 6 RX3) (hr : meth.sig.returnType = none) (hk : meth.locks = false) {μo : Mem} {x2 : Int32} {x3 : Int32} {x4 : Int32} {rec : Int32 → Mem → Option Mem} (hrec : ∀ (z4 : Int32) (ν : Mem) (H : Heap) (locs : List Loc) (ls : Array Slot), Hd ω ν H → FS ω s H locs → lv_has ls 6 [(0, .ref (wB ω + q)), (1, .ref (wB ω + q1)), (2, .int x2), (3, .int x3), (4, .int z4)] → rec z4 ν = some μo → W p l e (rmd 4) s m args below meth c H locs 0 0 (MQ below (QR ω none μo) args s 0 0 (wA ω)) (F0 m 3 ls [])) {μ : Mem} {H : Heap} {locs : List Loc} {ls : Array Slot} (hH : Hd ω μ H) (hS : FS ω s H locs) (hl : lv_has ls 6 [(0, .ref (wB ω + q)), (1, .ref (wB ω + q1)), (2, .int x2), (3, .int x3), (4, .int x4)]) (h : fX3_burnIn_s3 rec q q1 x2 x3 x4 μ = some μo) : W p l e (rmd 4) s m args below meth c H locs 0 0 (MQ below (QR ω none μo) args s 0 0 (wA ω)) (F0 m 3 ls []) := by
  have hx := C.1
  have hb := C.2.1
  unfold fX3_burnIn_s3 at h
  refine lv_iload hx hb dX3_burnIn_3 (lv_at hl 4 rfl) ?_
  refine lv_iload_n hx hb dX3_burnIn_5 rfl (lv_at hl 3 rfl) ?_
  refine lv_icmp_ge (tgt := 80) hx hb dX3_burnIn_6 (by decide) (fun hc => ?_) (fun hc => ?_)
  · have h := ite_t hc h
    exact h_vret C hr hk hH hS (by cases h; rfl) dX3_burnIn_80
  · have h := ite_f hc h
    refine lv_aload_n hx hb dX3_burnIn_9 rfl (lv_at hl 1 rfl) ?_
    refine lv_iload_n hx hb dX3_burnIn_10 rfl (lv_at hl 2 rfl) ?_
    refine lv_iconst (v := 2) hx hb dX3_burnIn_11 (by decide) ?_
    obtain ⟨r2, e1, h⟩ := b1_e h
    refine cVi (as := [.int x2, .int 2]) (rest := []) (c_X7_get hq1 e1) C hl.1 hH hS rfl hq1.1 rfl wd_745 wd_744 mw_X7_get wd_770 rfl (rm_ok (by decide) (by decide)) (Nat.le_of_ble_eq_true rfl) ⟨Nat.zero_le _, Nat.zero_le _⟩ (by decide) dX3_burnIn_12 (fun H locs hH hS => ?_)
    refine lv_aload_n hx hb dX3_burnIn_15 rfl (lv_at hl 0 rfl) ?_
    refine lv_aload_n hx hb dX3_burnIn_16 rfl (lv_at hl 1 rfl) ?_
    refine lv_iload_n hx hb dX3_burnIn_17 rfl (lv_at hl 2 rfl) ?_
    obtain ⟨r5, μ4, e3, h⟩ := b2_e h
    refine cVi (as := [.ref (wB ω + q1), .int x2]) (rest := [.int r2]) (c_X3_warms hq hq1 e3) C hl.1 hH hS rfl hq.1 rfl wd_764 wd_763 mw_X3_warms wd_837 rfl (rm_ok (by decide) (by decide)) (Nat.le_of_ble_eq_true rfl) ⟨Nat.zero_le _, Nat.zero_le _⟩ (by decide) dX3_burnIn_18 (fun H locs hH hS => ?_)
    refine lv_iadd hx hb dX3_burnIn_21 ?_
    obtain ⟨y6, e7, h⟩ := bd_e h
    refine h_topi e7 ?_
    refine lv_istore (lv' := [(5, .int y6), (0, .ref (wB ω + q)), (1, .ref (wB ω + q1)), (2, .int x2), (3, .int x3), (4, .int x4)]) hx hb dX3_burnIn_22 hl (by decide) rfl (fun ls hl => ?_)
    refine lv_aload_n hx hb dX3_burnIn_24 rfl (lv_at hl 2 rfl) ?_
    refine lv_iload_n hx hb dX3_burnIn_25 rfl (lv_at hl 3 rfl) ?_
    refine lv_iconst (v := 2) hx hb dX3_burnIn_26 (by decide) ?_
    refine lv_sipush (v := 999) hx hb dX3_burnIn_27 (by decide) ?_
    refine lv_iload hx hb dX3_burnIn_30 (lv_at hl 0 rfl) ?_
    refine h_mmin C hl.1 wd_760 (rest := [.int 2, .int x2, .ref (wB ω + q1)]) (Nat.le_of_ble_eq_true rfl) (Nat.le_of_ble_eq_true rfl) ⟨Nat.zero_le _, Nat.zero_le _⟩ dX3_burnIn_32 ?_
    refine h_topi (y := jmin 999 y6) rfl ?_
    obtain ⟨μ9, e8, h⟩ := b1_e h
    refine cVv (as := [.int x2, .int 2, .int (jmin 999 y6)]) (rest := []) (c_X7_set hq1 e8) C hl.1 hH hS rfl hq1.1 rfl wd_721 wd_720 mw_X7_set wd_719 rfl (rm_ok (by decide) (by decide)) (Nat.le_of_ble_eq_true rfl) ⟨Nat.zero_le _, Nat.zero_le _⟩ (by decide) dX3_burnIn_35 (fun H locs hH hS => ?_)
    refine lv_aload_n hx hb dX3_burnIn_38 rfl (lv_at hl 2 rfl) ?_
    refine lv_iload_n hx hb dX3_burnIn_39 rfl (lv_at hl 3 rfl) ?_
    refine lv_bipush (v := 6) hx hb dX3_burnIn_40 (by decide) ?_
    refine lv_aload_n hx hb dX3_burnIn_42 rfl (lv_at hl 2 rfl) ?_
    refine lv_iload_n hx hb dX3_burnIn_43 rfl (lv_at hl 3 rfl) ?_
    refine lv_bipush (v := 6) hx hb dX3_burnIn_44 (by decide) ?_
    obtain ⟨r11, e10, h⟩ := b1_e h
    refine cVi (as := [.int x2, .int 6]) (rest := [.int 6, .int x2, .ref (wB ω + q1)]) (c_X7_get hq1 e10) C hl.1 hH hS rfl hq1.1 rfl wd_745 wd_744 mw_X7_get wd_770 rfl (rm_ok (by decide) (by decide)) (Nat.le_of_ble_eq_true rfl) ⟨Nat.zero_le _, Nat.zero_le _⟩ (by decide) dX3_burnIn_46 (fun H locs hH hS => ?_)
    refine lv_iconst (v := 1) hx hb dX3_burnIn_49 (by decide) ?_
    refine lv_iadd hx hb dX3_burnIn_50 ?_
    obtain ⟨μ13, e12, h⟩ := b1_e h
    refine cVv (as := [.int x2, .int 6, .int (r11 + 1)]) (rest := []) (c_X7_set hq1 e12) C hl.1 hH hS rfl hq1.1 rfl wd_721 wd_720 mw_X7_set wd_719 rfl (rm_ok (by decide) (by decide)) (Nat.le_of_ble_eq_true rfl) ⟨Nat.zero_le _, Nat.zero_le _⟩ (by decide) dX3_burnIn_51 (fun H locs hH hS => ?_)
    refine lv_aload_n hx hb dX3_burnIn_54 rfl (lv_at hl 2 rfl) ?_
    refine lv_dup hx hb dX3_burnIn_55 rfl ?_
    refine g_330 C hH hq1.1 dX3_burnIn_56 ?_
    refine lv_iconst (v := 1) hx hb dX3_burnIn_59 (by decide) ?_
    refine lv_isub hx hb dX3_burnIn_60 ?_
    obtain ⟨μ14, e15, h⟩ := bd_e h
    refine p_330 C hH hS hq1.1 dX3_burnIn_61 (fun H locs hH hS => ?_)
    have hH := Hd.to e15 hH
    refine lv_aload_n hx hb dX3_burnIn_64 rfl (lv_at hl 2 rfl) ?_
    refine lv_dup hx hb dX3_burnIn_65 rfl ?_
    refine g_332 C hH hq1.1 dX3_burnIn_66 ?_
    refine lv_iconst (v := 1) hx hb dX3_burnIn_69 (by decide) ?_
    refine lv_iadd hx hb dX3_burnIn_70 ?_
    obtain ⟨μ16, e17, h⟩ := bd_e h
    refine p_332 C hH hS hq1.1 dX3_burnIn_71 (fun H locs hH hS => ?_)
    have hH := Hd.to e17 hH
    refine lv_iinc (v := x4 + 1) (lv' := [(4, .int (x4 + 1)), (5, .int y6), (0, .ref (wB ω + q)), (1, .ref (wB ω + q1)), (2, .int x2), (3, .int x3)]) hx hb dX3_burnIn_74 hl (k := 5) rfl rfl (by decide) rfl (fun ls hl => ?_)
    refine lv_goto (tgt := 3) hx hb dX3_burnIn_77 (by decide) ?_
    exact hrec _ _ H locs ls hH hS (lv_sub hl [2, 3, 4, 5, 0] rfl) h
theorem wX3_burnIn_l3 {q : Nat} {q1 : Nat} (hq : IsQ ω q) (hq1 : IsS ω q1) (C : Cx ω p s m args c cX3_burnIn 6 RX3) (hr : meth.sig.returnType = none) (hk : meth.locks = false) {μo : Mem} {x2 : Int32} {x3 : Int32} : ∀ (n : Nat) (x4 : Int32) (μ : Mem) (H : Heap) (locs : List Loc) (ls : Array Slot), Hd ω μ H → FS ω s H locs → lv_has ls 6 [(0, .ref (wB ω + q)), (1, .ref (wB ω + q1)), (2, .int x2), (3, .int x3), (4, .int x4)] → fX3_burnIn_l3 q q1 x2 x3 n x4 μ = some μo → W p l e (rmd 4) s m args below meth c H locs 0 0 (MQ below (QR ω none μo) args s 0 0 (wA ω)) (F0 m 3 ls []) := by
  intro n
  induction n with
  | zero => intro x4 μ H locs ls hH hS hl h; cases h
  | succ n ih => intro x4 μ H locs ls hH hS hl h; exact wX3_burnIn_s3 hq hq1 C hr hk ih hH hS hl h
set_option maxHeartbeats 4000000 in
set_option maxRecDepth 100000 in
theorem wX3_burnIn_e {q : Nat} {q1 : Nat} (hq : IsQ ω q) (hq1 : IsS ω q1) (C : Cx ω p s m args c cX3_burnIn 6 RX3) (hr : meth.sig.returnType = none) (hk : meth.locks = false) {μo : Mem} {x2 : Int32} {x3 : Int32} {μ : Mem} {H : Heap} {locs : List Loc} {ls : Array Slot} (hH : Hd ω μ H) (hS : FS ω s H locs) (hl : lv_has ls 6 [(0, .ref (wB ω + q)), (1, .ref (wB ω + q1)), (2, .int x2), (3, .int x3)]) (h : fX3_burnIn q q1 x2 x3 μ = some μo) : W p l e (rmd 4) s m args below meth c H locs 0 0 (MQ below (QR ω none μo) args s 0 0 (wA ω)) (F0 m 0 ls []) := by
  have hx := C.1
  have hb := C.2.1
  unfold fX3_burnIn at h
  refine lv_iconst (v := 0) hx hb dX3_burnIn_0 (by decide) ?_
  refine lv_istore (lv' := [(4, .int 0), (0, .ref (wB ω + q)), (1, .ref (wB ω + q1)), (2, .int x2), (3, .int x3)]) hx hb dX3_burnIn_1 hl (by decide) rfl (fun ls hl => ?_)
  exact wX3_burnIn_l3 hq hq1 C hr hk FU _ _ H locs ls hH hS (lv_sub hl [1, 2, 3, 4, 0] rfl) h
theorem c_X3_burnIn {l : Launch} {ω : WW} {q : Nat} {q1 : Nat} {x2 : Int32} {x3 : Int32} (hq : IsQ ω q) (hq1 : IsS ω q1) {μ : Mem} {μo : Mem} (h : fX3_burnIn q q1 x2 x3 μ = some μo) : Con l yX3_burnIn cX3_burnIn 6 none 4 ω [.ref (wB ω + q), .ref (wB ω + q1), .int x2, .int x3] μ none μo :=
  con_of (by decide) (Nat.le_of_ble_eq_true rfl) (fun p e s m args below meth c ls C hr hk hl hH hS => wX3_burnIn_e hq hq1 C hr hk hH hS (lv_sub hl [0, 1, 2, 3] rfl) h)
set_option maxHeartbeats 4000000 in
set_option maxRecDepth 100000 in
theorem wX11_burn_e (hW : FWC ω) (C : Cx ω p s m args c cX11_burn 3 RX11) (hr : meth.sig.returnType = some .int) (hk : meth.locks = false) {rr : Int32} {μo : Mem} {x1 : Int32} {x2 : Int32} {μ : Mem} {H : Heap} {locs : List Loc} {ls : Array Slot} (hH : Hd ω μ H) (hS : FS ω s H locs) (hl : lv_has ls 3 [(0, .ref (wB ω + 1)), (1, .int x1), (2, .int x2)]) (h : fX11_burn x1 x2 μ = some (rr, μo)) : W p l e (rmd 5) s m args below meth c H locs 0 0 (MQ below (QR ω (some (.int rr)) μo) args s 0 0 (wA ω)) (F0 m 0 ls []) := by
  have hx := C.1
  have hb := C.2.1
  unfold fX11_burn at h
  refine lv_aload_n hx hb dX11_burn_0 rfl (lv_at hl 0 rfl) ?_
  refine lv_iload_n hx hb dX11_burn_1 rfl (lv_at hl 1 rfl) ?_
  obtain ⟨r2, e1, h⟩ := b1_e h
  refine cVi (as := [.int x1]) (rest := []) (c_X11_isHouse hW e1) C hl.1 hH hS rfl (jC_1 hW) rfl wd_15 wd_741 mw_X11_isHouse wd_739 rfl (rm_ok (by decide) (by decide)) (Nat.le_of_ble_eq_true rfl) ⟨Nat.zero_le _, Nat.zero_le _⟩ (by decide) dX11_burn_2 (fun H locs hH hS => ?_)
  refine lv_if_eq (tgt := 30) hx hb dX11_burn_5 (by decide) (fun hc => ?_) (fun hc => ?_)
  · have h := ite_t hc h
    refine lv_iconst (v := (-1)) hx hb dX11_burn_30 (by decide) ?_
    exact h_iret C hr hk hH hS rfl (by cases h; rfl) dX11_burn_31
  · have h := ite_f hc h
    refine lv_iload_n hx hb dX11_burn_8 rfl (lv_at hl 2 rfl) ?_
    refine lv_iconst (v := 1) hx hb dX11_burn_9 (by decide) ?_
    refine lv_icmp_lt (tgt := 30) hx hb dX11_burn_10 (by decide) (fun hc => ?_) (fun hc => ?_)
    · have h := ite_t hc h
      refine lv_iconst (v := (-1)) hx hb dX11_burn_30 (by decide) ?_
      exact h_iret C hr hk hH hS rfl (by cases h; rfl) dX11_burn_31
    · have h := ite_f hc h
      refine lv_iload_n hx hb dX11_burn_13 rfl (lv_at hl 2 rfl) ?_
      refine lv_bipush (v := 99) hx hb dX11_burn_14 (by decide) ?_
      refine lv_icmp_gt (tgt := 30) hx hb dX11_burn_16 (by decide) (fun hc => ?_) (fun hc => ?_)
      · have h := ite_t hc h
        refine lv_iconst (v := (-1)) hx hb dX11_burn_30 (by decide) ?_
        exact h_iret C hr hk hH hS rfl (by cases h; rfl) dX11_burn_31
      · have h := ite_f hc h
        refine lv_iload_n hx hb dX11_burn_19 rfl (lv_at hl 2 rfl) ?_
        refine lv_aload_n hx hb dX11_burn_20 rfl (lv_at hl 0 rfl) ?_
        refine g_477 (i := 24) C hH (jC_1 hW) rfl dX11_burn_21 ?_
        refine g_328 C hH (jC_24 hW) dX11_burn_24 ?_
        refine lv_icmp_le (tgt := 32) hx hb dX11_burn_27 (by decide) (fun hc => ?_) (fun hc => ?_)
        · have h := ite_t hc h
          refine lv_aload_n hx hb dX11_burn_32 rfl (lv_at hl 0 rfl) ?_
          refine g_480 (i := 30) C hH (jC_1 hW) rfl dX11_burn_33 ?_
          refine lv_aload_n hx hb dX11_burn_36 rfl (lv_at hl 0 rfl) ?_
          refine g_477 (i := 24) C hH (jC_1 hW) rfl dX11_burn_37 ?_
          obtain ⟨μ4, e3, h⟩ := b1_e h
          refine cVv (as := [.ref (wB ω + 24)]) (rest := []) (c_X0_push hW (sC_24 hW) e3) C hl.1 hH hS rfl (jC_30 hW) rfl wd_825 wd_824 mw_X0_push wd_823 rfl (rm_ok (by decide) (by decide)) (Nat.le_of_ble_eq_true rfl) ⟨Nat.zero_le _, Nat.zero_le _⟩ (by decide) dX11_burn_40 (fun H locs hH hS => ?_)
          refine lv_aload_n hx hb dX11_burn_43 rfl (lv_at hl 0 rfl) ?_
          refine g_476 (i := 17) C hH (jC_1 hW) rfl dX11_burn_44 ?_
          refine lv_aload_n hx hb dX11_burn_47 rfl (lv_at hl 0 rfl) ?_
          refine g_477 (i := 24) C hH (jC_1 hW) rfl dX11_burn_48 ?_
          refine lv_iload_n hx hb dX11_burn_51 rfl (lv_at hl 1 rfl) ?_
          refine lv_iload_n hx hb dX11_burn_52 rfl (lv_at hl 2 rfl) ?_
          obtain ⟨μ6, e5, h⟩ := b1_e h
          refine cVv (as := [.ref (wB ω + 24), .int x1, .int x2]) (rest := []) (c_X3_burnIn (qC_17 hW) (sC_24 hW) e5) C hl.1 hH hS rfl (jC_17 hW) rfl wd_835 wd_834 mw_X3_burnIn wd_833 rfl (rm_ok (by decide) (by decide)) (Nat.le_of_ble_eq_true rfl) ⟨Nat.zero_le _, Nat.zero_le _⟩ (by decide) dX11_burn_53 (fun H locs hH hS => ?_)
          refine lv_aload_n hx hb dX11_burn_56 rfl (lv_at hl 0 rfl) ?_
          refine g_477 (i := 24) C hH (jC_1 hW) rfl dX11_burn_57 ?_
          refine lv_iload_n hx hb dX11_burn_60 rfl (lv_at hl 1 rfl) ?_
          refine lv_iconst (v := 2) hx hb dX11_burn_61 (by decide) ?_
          obtain ⟨r8, e7, h⟩ := b1_e h
          refine cVi (as := [.int x1, .int 2]) (rest := []) (c_X7_get (sC_24 hW) e7) C hl.1 hH hS rfl (jC_24 hW) rfl wd_745 wd_744 mw_X7_get wd_743 rfl (rm_ok (by decide) (by decide)) (Nat.le_of_ble_eq_true rfl) ⟨Nat.zero_le _, Nat.zero_le _⟩ (by decide) dX11_burn_62 (fun H locs hH hS => ?_)
          exact h_iret C hr hk hH hS rfl (by cases h; rfl) dX11_burn_65
        · have h := ite_f hc h
          refine lv_iconst (v := (-1)) hx hb dX11_burn_30 (by decide) ?_
          exact h_iret C hr hk hH hS rfl (by cases h; rfl) dX11_burn_31
theorem c_X11_burn {l : Launch} {ω : WW} {x1 : Int32} {x2 : Int32} (hW : FWC ω) {μ : Mem} {rr : Int32} {μo : Mem} (h : fX11_burn x1 x2 μ = some (rr, μo)) : Con l yX11_burn cX11_burn 3 (some .int) 5 ω [.ref (wB ω + 1), .int x1, .int x2] μ (some (.int rr)) μo :=
  con_of (by decide) (Nat.le_of_ble_eq_true rfl) (fun p e s m args below meth c ls C hr hk hl hH hS => wX11_burn_e hW C hr hk hH hS (lv_sub hl [0, 1, 2] rfl) h)
set_option maxHeartbeats 4000000 in
set_option maxRecDepth 100000 in
theorem wX3_fades_e {q : Nat} {q1 : Nat} (hq : IsQ ω q) (hq1 : IsS ω q1) (C : Cx ω p s m args c cX3_fades 4 RX3) (hr : meth.sig.returnType = some .int) (hk : meth.locks = false) {rr : Int32} {μo : Mem} {x2 : Int32} {μ : Mem} {H : Heap} {locs : List Loc} {ls : Array Slot} (hH : Hd ω μ H) (hS : FS ω s H locs) (hl : lv_has ls 4 [(0, .ref (wB ω + q)), (1, .ref (wB ω + q1)), (2, .int x2)]) (h : fX3_fades q q1 x2 μ = some (rr, μo)) : W p l e (rmd 3) s m args below meth c H locs 0 0 (MQ below (QR ω (some (.int rr)) μo) args s 0 0 (wA ω)) (F0 m 0 ls []) := by
  have hx := C.1
  have hb := C.2.1
  unfold fX3_fades at h
  refine lv_aload_n hx hb dX3_fades_0 rfl (lv_at hl 1 rfl) ?_
  refine lv_iload_n hx hb dX3_fades_1 rfl (lv_at hl 2 rfl) ?_
  refine lv_iconst (v := 3) hx hb dX3_fades_2 (by decide) ?_
  obtain ⟨r2, e1, h⟩ := b1_e h
  refine cVi (as := [.int x2, .int 3]) (rest := []) (c_X7_get hq1 e1) C hl.1 hH hS rfl hq1.1 rfl wd_745 wd_744 mw_X7_get wd_770 rfl (rm_ok (by decide) (by decide)) (Nat.le_of_ble_eq_true rfl) ⟨Nat.zero_le _, Nat.zero_le _⟩ (by decide) dX3_fades_3 (fun H locs hH hS => ?_)
  refine lv_istore_n (lv' := [(3, .int r2), (0, .ref (wB ω + q)), (1, .ref (wB ω + q1)), (2, .int x2)]) hx hb dX3_fades_6 rfl hl (by decide) rfl (fun ls hl => ?_)
  refine lv_iconst (v := 0) hx hb dX3_fades_7 (by decide) ?_
  refine lv_iload_n hx hb dX3_fades_8 rfl (lv_at hl 0 rfl) ?_
  refine lv_aload_n hx hb dX3_fades_9 rfl (lv_at hl 1 rfl) ?_
  refine g_258 (i := q + 2) C hH hq.1 rfl dX3_fades_10 ?_
  refine lv_iconst (v := 2) hx hb dX3_fades_13 (by decide) ?_
  refine lv_aload_n hx hb dX3_fades_14 rfl (lv_at hl 2 rfl) ?_
  refine lv_iload_n hx hb dX3_fades_15 rfl (lv_at hl 3 rfl) ?_
  obtain ⟨r5, μ4, e3, h⟩ := b2_e h
  refine cVi (as := [.int 2, .ref (wB ω + q1), .int x2]) (rest := [.int r2, .int 0]) (c_X1_valueOf hq.2.2 hq1 e3) C hl.1 hH hS rfl hq.2.2.1 rfl wd_753 wd_752 mw_X1_valueOf wd_751 rfl (rm_ok (by decide) (by decide)) (Nat.le_of_ble_eq_true rfl) ⟨Nat.zero_le _, Nat.zero_le _⟩ (by decide) dX3_fades_16 (fun H locs hH hS => ?_)
  refine h_mmin C hl.1 wd_760 (rest := [.int 0]) (Nat.le_of_ble_eq_true rfl) (Nat.le_of_ble_eq_true rfl) ⟨Nat.zero_le _, Nat.zero_le _⟩ dX3_fades_19 ?_
  refine h_topi (y := jmin r2 r5) rfl ?_
  refine h_mmax C hl.1 wd_761 (rest := []) (Nat.le_of_ble_eq_true rfl) (Nat.le_of_ble_eq_true rfl) ⟨Nat.zero_le _, Nat.zero_le _⟩ dX3_fades_22 ?_
  refine h_topi (y := jmax 0 (jmin r2 r5)) rfl ?_
  exact h_iret C hr hk hH hS rfl (by cases h; rfl) dX3_fades_25
theorem c_X3_fades {l : Launch} {ω : WW} {q : Nat} {q1 : Nat} {x2 : Int32} (hq : IsQ ω q) (hq1 : IsS ω q1) {μ : Mem} {rr : Int32} {μo : Mem} (h : fX3_fades q q1 x2 μ = some (rr, μo)) : Con l yX3_fades cX3_fades 4 (some .int) 3 ω [.ref (wB ω + q), .ref (wB ω + q1), .int x2] μ (some (.int rr)) μo :=
  con_of (by decide) (Nat.le_of_ble_eq_true rfl) (fun p e s m args below meth c ls C hr hk hl hH hS => wX3_fades_e hq hq1 C hr hk hH hS (lv_sub hl [0, 1, 2] rfl) h)
set_option maxHeartbeats 4000000 in
set_option maxRecDepth 100000 in
theorem wX11_coalsNeeded_s10 {q1 : Nat} (hW : FWC ω) (hq1 : IsS ω q1) (C : Cx ω p s m args c cX11_coalsNeeded 4 RX11) (hr : meth.sig.returnType = some .int) (hk : meth.locks = false) {rr : Int32} {μo : Mem} {x2 : Int32} {x3 : Int32} {rec : Int32 → Mem → Option (Int32 × Mem)} (hrec : ∀ (z3 : Int32) (ν : Mem) (H : Heap) (locs : List Loc) (ls : Array Slot), Hd ω ν H → FS ω s H locs → lv_has ls 4 [(0, .ref (wB ω + 1)), (2, .int x2), (3, .int z3)] → rec z3 ν = some (rr, μo) → W p l e (rmd 5) s m args below meth c H locs 0 0 (MQ below (QR ω (some (.int rr)) μo) args s 0 0 (wA ω)) (F0 m 10 ls [])) {μ : Mem} {H : Heap} {locs : List Loc} {ls : Array Slot} (hH : Hd ω μ H) (hS : FS ω s H locs) (hl : lv_has ls 4 [(0, .ref (wB ω + 1)), (2, .int x2), (3, .int x3)]) (h : fX11_coalsNeeded_s10 rec q1 x2 x3 μ = some (rr, μo)) : W p l e (rmd 5) s m args below meth c H locs 0 0 (MQ below (QR ω (some (.int rr)) μo) args s 0 0 (wA ω)) (F0 m 10 ls []) := by
  have hx := C.1
  have hb := C.2.1
  unfold fX11_coalsNeeded_s10 at h
  refine lv_iload_n hx hb dX11_coalsNeeded_10 rfl (lv_at hl 2 rfl) ?_
  refine lv_bipush (v := 30) hx hb dX11_coalsNeeded_11 (by decide) ?_
  refine lv_icmp_gt (tgt := 52) hx hb dX11_coalsNeeded_13 (by decide) (fun hc => ?_) (fun hc => ?_)
  · have h := ite_t hc h
    refine lv_iconst (v := (-1)) hx hb dX11_coalsNeeded_52 (by decide) ?_
    exact h_iret C hr hk hH hS rfl (by cases h; rfl) dX11_coalsNeeded_53
  · have h := ite_f hc h
    refine lv_aload_n hx hb dX11_coalsNeeded_16 rfl (lv_at hl 0 rfl) ?_
    refine g_476 (i := 17) C hH (jC_1 hW) rfl dX11_coalsNeeded_17 ?_
    refine lv_aload_n hx hb dX11_coalsNeeded_20 rfl (lv_at hl 0 rfl) ?_
    refine g_479 (i := 28) C hH (jC_1 hW) rfl dX11_coalsNeeded_21 ?_
    refine lv_iload_n hx hb dX11_coalsNeeded_24 rfl (lv_at hl 1 rfl) ?_
    obtain ⟨r5, μ4, e3, h⟩ := b2_e h
    refine cVi (as := [.ref (wB ω + 28), .int x2]) (rest := []) (c_X3_fades (qC_17 hW) (sC_28 hW) e3) C hl.1 hH hS rfl (jC_17 hW) rfl wd_768 wd_767 mw_X3_fades wd_766 rfl (rm_ok (by decide) (by decide)) (Nat.le_of_ble_eq_true rfl) ⟨Nat.zero_le _, Nat.zero_le _⟩ (by decide) dX11_coalsNeeded_25 (fun H locs hH hS => ?_)
    refine lv_if_ne (tgt := 33) hx hb dX11_coalsNeeded_28 (by decide) (fun hc => ?_) (fun hc => ?_)
    · have h := ite_f hc h
      refine lv_aload_n hx hb dX11_coalsNeeded_33 rfl (lv_at hl 0 rfl) ?_
      refine g_476 (i := 17) C hH (jC_1 hW) rfl dX11_coalsNeeded_34 ?_
      refine lv_aload_n hx hb dX11_coalsNeeded_37 rfl (lv_at hl 0 rfl) ?_
      refine g_479 (i := 28) C hH (jC_1 hW) rfl dX11_coalsNeeded_38 ?_
      refine lv_iload_n hx hb dX11_coalsNeeded_41 rfl (lv_at hl 1 rfl) ?_
      refine lv_iconst (v := 1) hx hb dX11_coalsNeeded_42 (by decide) ?_
      obtain ⟨μ7, e6, h⟩ := b1_e h
      refine cVv (as := [.ref (wB ω + 28), .int x2, .int 1]) (rest := []) (c_X3_burnIn (qC_17 hW) (sC_28 hW) e6) C hl.1 hH hS rfl (jC_17 hW) rfl wd_835 wd_834 mw_X3_burnIn wd_833 rfl (rm_ok (by decide) (by decide)) (Nat.le_of_ble_eq_true rfl) ⟨Nat.zero_le _, Nat.zero_le _⟩ (by decide) dX11_coalsNeeded_43 (fun H locs hH hS => ?_)
      refine lv_iinc (v := x3 + 1) (lv' := [(3, .int (x3 + 1)), (0, .ref (wB ω + 1)), (2, .int x2)]) hx hb dX11_coalsNeeded_46 hl (k := 2) rfl rfl (by decide) rfl (fun ls hl => ?_)
      refine lv_goto (tgt := 10) hx hb dX11_coalsNeeded_49 (by decide) ?_
      exact hrec _ _ H locs ls hH hS (lv_sub hl [1, 2, 0] rfl) h
    · have h := ite_t hc h
      refine lv_iload_n hx hb dX11_coalsNeeded_31 rfl (lv_at hl 2 rfl) ?_
      exact h_iret C hr hk hH hS rfl (by cases h; rfl) dX11_coalsNeeded_32
theorem wX11_coalsNeeded_l10 {q1 : Nat} (hW : FWC ω) (hq1 : IsS ω q1) (C : Cx ω p s m args c cX11_coalsNeeded 4 RX11) (hr : meth.sig.returnType = some .int) (hk : meth.locks = false) {rr : Int32} {μo : Mem} {x2 : Int32} : ∀ (n : Nat) (x3 : Int32) (μ : Mem) (H : Heap) (locs : List Loc) (ls : Array Slot), Hd ω μ H → FS ω s H locs → lv_has ls 4 [(0, .ref (wB ω + 1)), (2, .int x2), (3, .int x3)] → fX11_coalsNeeded_l10 q1 x2 n x3 μ = some (rr, μo) → W p l e (rmd 5) s m args below meth c H locs 0 0 (MQ below (QR ω (some (.int rr)) μo) args s 0 0 (wA ω)) (F0 m 10 ls []) := by
  intro n
  induction n with
  | zero => intro x3 μ H locs ls hH hS hl h; cases h
  | succ n ih => intro x3 μ H locs ls hH hS hl h; exact wX11_coalsNeeded_s10 hW hq1 C hr hk ih hH hS hl h
set_option maxHeartbeats 4000000 in
set_option maxRecDepth 100000 in
theorem wX11_coalsNeeded_e {q1 : Nat} (hW : FWC ω) (hq1 : IsS ω q1) (C : Cx ω p s m args c cX11_coalsNeeded 4 RX11) (hr : meth.sig.returnType = some .int) (hk : meth.locks = false) {rr : Int32} {μo : Mem} {x2 : Int32} {μ : Mem} {H : Heap} {locs : List Loc} {ls : Array Slot} (hH : Hd ω μ H) (hS : FS ω s H locs) (hl : lv_has ls 4 [(0, .ref (wB ω + 1)), (1, .ref (wB ω + q1)), (2, .int x2)]) (h : fX11_coalsNeeded q1 x2 μ = some (rr, μo)) : W p l e (rmd 5) s m args below meth c H locs 0 0 (MQ below (QR ω (some (.int rr)) μo) args s 0 0 (wA ω)) (F0 m 0 ls []) := by
  have hx := C.1
  have hb := C.2.1
  unfold fX11_coalsNeeded at h
  refine lv_aload_n hx hb dX11_coalsNeeded_0 rfl (lv_at hl 0 rfl) ?_
  refine g_479 (i := 28) C hH (jC_1 hW) rfl dX11_coalsNeeded_1 ?_
  refine lv_aload_n hx hb dX11_coalsNeeded_4 rfl (lv_at hl 1 rfl) ?_
  obtain ⟨μ2, e1, h⟩ := b1_e h
  refine cVv (as := [.ref (wB ω + q1)]) (rest := []) (c_X7_copyFrom (sC_28 hW) hq1 e1) C hl.1 hH hS rfl (jC_28 hW) rfl wd_829 wd_828 mw_X7_copyFrom wd_919 rfl (rm_ok (by decide) (by decide)) (Nat.le_of_ble_eq_true rfl) ⟨Nat.zero_le _, Nat.zero_le _⟩ (by decide) dX11_coalsNeeded_5 (fun H locs hH hS => ?_)
  refine lv_iconst (v := 0) hx hb dX11_coalsNeeded_8 (by decide) ?_
  refine lv_istore_n (lv' := [(3, .int 0), (0, .ref (wB ω + 1)), (1, .ref (wB ω + q1)), (2, .int x2)]) hx hb dX11_coalsNeeded_9 rfl hl (by decide) rfl (fun ls hl => ?_)
  exact wX11_coalsNeeded_l10 hW hq1 C hr hk FU _ _ H locs ls hH hS (lv_sub hl [1, 3, 0] rfl) h
theorem c_X11_coalsNeeded {l : Launch} {ω : WW} {q1 : Nat} {x2 : Int32} (hW : FWC ω) (hq1 : IsS ω q1) {μ : Mem} {rr : Int32} {μo : Mem} (h : fX11_coalsNeeded q1 x2 μ = some (rr, μo)) : Con l yX11_coalsNeeded cX11_coalsNeeded 4 (some .int) 5 ω [.ref (wB ω + 1), .ref (wB ω + q1), .int x2] μ (some (.int rr)) μo :=
  con_of (by decide) (Nat.le_of_ble_eq_true rfl) (fun p e s m args below meth c ls C hr hk hl hH hS => wX11_coalsNeeded_e hW hq1 C hr hk hH hS (lv_sub hl [0, 1, 2] rfl) h)
set_option maxHeartbeats 4000000 in
set_option maxRecDepth 100000 in
theorem wX3_cools_e {q : Nat} {q1 : Nat} (hq : IsQ ω q) (hq1 : IsS ω q1) (C : Cx ω p s m args c cX3_cools 3 RX3) (hr : meth.sig.returnType = some .int) (hk : meth.locks = false) {rr : Int32} {μo : Mem} {x2 : Int32} {μ : Mem} {H : Heap} {locs : List Loc} {ls : Array Slot} (hH : Hd ω μ H) (hS : FS ω s H locs) (hl : lv_has ls 3 [(0, .ref (wB ω + q)), (1, .ref (wB ω + q1)), (2, .int x2)]) (h : fX3_cools q q1 x2 μ = some (rr, μo)) : W p l e (rmd 3) s m args below meth c H locs 0 0 (MQ below (QR ω (some (.int rr)) μo) args s 0 0 (wA ω)) (F0 m 0 ls []) := by
  have hx := C.1
  have hb := C.2.1
  unfold fX3_cools at h
  refine lv_iconst (v := 0) hx hb dX3_cools_0 (by decide) ?_
  refine lv_bipush (v := 99) hx hb dX3_cools_1 (by decide) ?_
  refine lv_aload_n hx hb dX3_cools_3 rfl (lv_at hl 0 rfl) ?_
  refine g_258 (i := q + 2) C hH hq.1 rfl dX3_cools_4 ?_
  refine lv_iconst (v := 0) hx hb dX3_cools_7 (by decide) ?_
  refine lv_aload_n hx hb dX3_cools_8 rfl (lv_at hl 1 rfl) ?_
  refine lv_iload_n hx hb dX3_cools_9 rfl (lv_at hl 2 rfl) ?_
  obtain ⟨r3, μ2, e1, h⟩ := b2_e h
  refine cVi (as := [.int 0, .ref (wB ω + q1), .int x2]) (rest := [.int 99, .int 0]) (c_X1_valueOf hq.2.2 hq1 e1) C hl.1 hH hS rfl hq.2.2.1 rfl wd_753 wd_752 mw_X1_valueOf wd_751 rfl (rm_ok (by decide) (by decide)) (Nat.le_of_ble_eq_true rfl) ⟨Nat.zero_le _, Nat.zero_le _⟩ (by decide) dX3_cools_10 (fun H locs hH hS => ?_)
  refine h_mmin C hl.1 wd_760 (rest := [.int 0]) (Nat.le_of_ble_eq_true rfl) (Nat.le_of_ble_eq_true rfl) ⟨Nat.zero_le _, Nat.zero_le _⟩ dX3_cools_13 ?_
  refine h_topi (y := jmin 99 r3) rfl ?_
  refine h_mmax C hl.1 wd_761 (rest := []) (Nat.le_of_ble_eq_true rfl) (Nat.le_of_ble_eq_true rfl) ⟨Nat.zero_le _, Nat.zero_le _⟩ dX3_cools_16 ?_
  refine h_topi (y := jmax 0 (jmin 99 r3)) rfl ?_
  exact h_iret C hr hk hH hS rfl (by cases h; rfl) dX3_cools_19
theorem c_X3_cools {l : Launch} {ω : WW} {q : Nat} {q1 : Nat} {x2 : Int32} (hq : IsQ ω q) (hq1 : IsS ω q1) {μ : Mem} {rr : Int32} {μo : Mem} (h : fX3_cools q q1 x2 μ = some (rr, μo)) : Con l yX3_cools cX3_cools 3 (some .int) 3 ω [.ref (wB ω + q), .ref (wB ω + q1), .int x2] μ (some (.int rr)) μo :=
  con_of (by decide) (Nat.le_of_ble_eq_true rfl) (fun p e s m args below meth c ls C hr hk hl hH hS => wX3_cools_e hq hq1 C hr hk hH hS (lv_sub hl [0, 1, 2] rfl) h)
set_option maxHeartbeats 4000000 in
set_option maxRecDepth 100000 in
theorem wX3_timesCooled_e {q : Nat} {q1 : Nat} (hq : IsQ ω q) (hq1 : IsS ω q1) (C : Cx ω p s m args c cX3_timesCooled 3 RX3) (hr : meth.sig.returnType = some .int) (hk : meth.locks = false) {rr : Int32} {μ : Mem} {x2 : Int32} {H : Heap} {locs : List Loc} {ls : Array Slot} (hH : Hd ω μ H) (hS : FS ω s H locs) (hl : lv_has ls 3 [(0, .ref (wB ω + q)), (1, .ref (wB ω + q1)), (2, .int x2)]) (h : fX3_timesCooled q q1 x2 μ = some rr) : W p l e (rmd 2) s m args below meth c H locs 0 0 (MQ below (QR ω (some (.int rr)) μ) args s 0 0 (wA ω)) (F0 m 0 ls []) := by
  have hx := C.1
  have hb := C.2.1
  unfold fX3_timesCooled at h
  refine lv_iconst (v := 1) hx hb dX3_timesCooled_0 (by decide) ?_
  refine lv_aload_n hx hb dX3_timesCooled_1 rfl (lv_at hl 1 rfl) ?_
  refine lv_iload_n hx hb dX3_timesCooled_2 rfl (lv_at hl 2 rfl) ?_
  refine lv_iconst (v := 4) hx hb dX3_timesCooled_3 (by decide) ?_
  obtain ⟨r2, e1, h⟩ := b1_e h
  refine cVi (as := [.int x2, .int 4]) (rest := [.int 1]) (c_X7_get hq1 e1) C hl.1 hH hS rfl hq1.1 rfl wd_745 wd_744 mw_X7_get wd_770 rfl (rm_ok (by decide) (by decide)) (Nat.le_of_ble_eq_true rfl) ⟨Nat.zero_le _, Nat.zero_le _⟩ (by decide) dX3_timesCooled_4 (fun H locs hH hS => ?_)
  refine lv_iadd hx hb dX3_timesCooled_7 ?_
  exact h_iret C hr hk hH hS rfl (by cases h; rfl) dX3_timesCooled_8
theorem c_X3_timesCooled {l : Launch} {ω : WW} {q : Nat} {q1 : Nat} {x2 : Int32} (hq : IsQ ω q) (hq1 : IsS ω q1) {μ : Mem} {rr : Int32} (h : fX3_timesCooled q q1 x2 μ = some rr) : Con l yX3_timesCooled cX3_timesCooled 3 (some .int) 2 ω [.ref (wB ω + q), .ref (wB ω + q1), .int x2] μ (some (.int rr)) μ :=
  con_of (by decide) (Nat.le_of_ble_eq_true rfl) (fun p e s m args below meth c ls C hr hk hl hH hS => wX3_timesCooled_e hq hq1 C hr hk hH hS (lv_sub hl [0, 1, 2] rfl) h)
set_option maxHeartbeats 4000000 in
set_option maxRecDepth 100000 in
theorem wX3_passHouse_e {q : Nat} {q1 : Nat} (hq : IsQ ω q) (hq1 : IsS ω q1) (C : Cx ω p s m args c cX3_passHouse 5 RX3) (hr : meth.sig.returnType = none) (hk : meth.locks = false) {μo : Mem} {x2 : Int32} {μ : Mem} {H : Heap} {locs : List Loc} {ls : Array Slot} (hH : Hd ω μ H) (hS : FS ω s H locs) (hl : lv_has ls 5 [(0, .ref (wB ω + q)), (1, .ref (wB ω + q1)), (2, .int x2)]) (h : fX3_passHouse q q1 x2 μ = some μo) : W p l e (rmd 4) s m args below meth c H locs 0 0 (MQ below (QR ω none μo) args s 0 0 (wA ω)) (F0 m 0 ls []) := by
  have hx := C.1
  have hb := C.2.1
  unfold fX3_passHouse at h
  refine lv_aload_n hx hb dX3_passHouse_0 rfl (lv_at hl 0 rfl) ?_
  refine lv_aload_n hx hb dX3_passHouse_1 rfl (lv_at hl 1 rfl) ?_
  refine lv_iload_n hx hb dX3_passHouse_2 rfl (lv_at hl 2 rfl) ?_
  obtain ⟨r3, μ2, e1, h⟩ := b2_e h
  refine cVi (as := [.ref (wB ω + q1), .int x2]) (rest := []) (c_X3_fades hq hq1 e1) C hl.1 hH hS rfl hq.1 rfl wd_768 wd_767 mw_X3_fades wd_868 rfl (rm_ok (by decide) (by decide)) (Nat.le_of_ble_eq_true rfl) ⟨Nat.zero_le _, Nat.zero_le _⟩ (by decide) dX3_passHouse_3 (fun H locs hH hS => ?_)
  refine lv_istore_n (lv' := [(3, .int r3), (0, .ref (wB ω + q)), (1, .ref (wB ω + q1)), (2, .int x2)]) hx hb dX3_passHouse_6 rfl hl (by decide) rfl (fun ls hl => ?_)
  refine lv_aload_n hx hb dX3_passHouse_7 rfl (lv_at hl 1 rfl) ?_
  refine lv_aload_n hx hb dX3_passHouse_8 rfl (lv_at hl 2 rfl) ?_
  refine lv_iload_n hx hb dX3_passHouse_9 rfl (lv_at hl 3 rfl) ?_
  obtain ⟨r6, μ5, e4, h⟩ := b2_e h
  refine cVi (as := [.ref (wB ω + q1), .int x2]) (rest := []) (c_X3_cools hq hq1 e4) C hl.1 hH hS rfl hq.1 rfl wd_749 wd_748 mw_X3_cools wd_869 rfl (rm_ok (by decide) (by decide)) (Nat.le_of_ble_eq_true rfl) ⟨Nat.zero_le _, Nat.zero_le _⟩ (by decide) dX3_passHouse_10 (fun H locs hH hS => ?_)
  refine lv_aload_n hx hb dX3_passHouse_13 rfl (lv_at hl 1 rfl) ?_
  refine lv_aload_n hx hb dX3_passHouse_14 rfl (lv_at hl 2 rfl) ?_
  refine lv_iload_n hx hb dX3_passHouse_15 rfl (lv_at hl 3 rfl) ?_
  obtain ⟨r8, e7, h⟩ := b1_e h
  refine cVi (as := [.ref (wB ω + q1), .int x2]) (rest := [.int r6]) (c_X3_timesCooled hq hq1 e7) C hl.1 hH hS rfl hq.1 rfl wd_872 wd_871 mw_X3_timesCooled wd_870 rfl (rm_ok (by decide) (by decide)) (Nat.le_of_ble_eq_true rfl) ⟨Nat.zero_le _, Nat.zero_le _⟩ (by decide) dX3_passHouse_16 (fun H locs hH hS => ?_)
  refine lv_imul hx hb dX3_passHouse_19 ?_
  obtain ⟨y9, e10, h⟩ := bd_e h
  refine h_topi e10 ?_
  refine lv_istore (lv' := [(4, .int y9), (3, .int r3), (0, .ref (wB ω + q)), (1, .ref (wB ω + q1)), (2, .int x2)]) hx hb dX3_passHouse_20 hl (by decide) rfl (fun ls hl => ?_)
  refine lv_aload_n hx hb dX3_passHouse_22 rfl (lv_at hl 3 rfl) ?_
  refine lv_iload_n hx hb dX3_passHouse_23 rfl (lv_at hl 4 rfl) ?_
  refine lv_iconst (v := 3) hx hb dX3_passHouse_24 (by decide) ?_
  refine lv_aload_n hx hb dX3_passHouse_25 rfl (lv_at hl 3 rfl) ?_
  refine lv_iload_n hx hb dX3_passHouse_26 rfl (lv_at hl 4 rfl) ?_
  refine lv_iconst (v := 3) hx hb dX3_passHouse_27 (by decide) ?_
  obtain ⟨r12, e11, h⟩ := b1_e h
  refine cVi (as := [.int x2, .int 3]) (rest := [.int 3, .int x2, .ref (wB ω + q1)]) (c_X7_get hq1 e11) C hl.1 hH hS rfl hq1.1 rfl wd_745 wd_744 mw_X7_get wd_770 rfl (rm_ok (by decide) (by decide)) (Nat.le_of_ble_eq_true rfl) ⟨Nat.zero_le _, Nat.zero_le _⟩ (by decide) dX3_passHouse_28 (fun H locs hH hS => ?_)
  refine lv_iload_n hx hb dX3_passHouse_31 rfl (lv_at hl 1 rfl) ?_
  refine lv_isub hx hb dX3_passHouse_32 ?_
  obtain ⟨μ14, e13, h⟩ := b1_e h
  refine cVv (as := [.int x2, .int 3, .int (r12 - r3)]) (rest := []) (c_X7_set hq1 e13) C hl.1 hH hS rfl hq1.1 rfl wd_721 wd_720 mw_X7_set wd_719 rfl (rm_ok (by decide) (by decide)) (Nat.le_of_ble_eq_true rfl) ⟨Nat.zero_le _, Nat.zero_le _⟩ (by decide) dX3_passHouse_33 (fun H locs hH hS => ?_)
  refine lv_aload_n hx hb dX3_passHouse_36 rfl (lv_at hl 3 rfl) ?_
  refine lv_iload_n hx hb dX3_passHouse_37 rfl (lv_at hl 4 rfl) ?_
  refine lv_iconst (v := 2) hx hb dX3_passHouse_38 (by decide) ?_
  refine lv_iconst (v := 0) hx hb dX3_passHouse_39 (by decide) ?_
  refine lv_aload_n hx hb dX3_passHouse_40 rfl (lv_at hl 3 rfl) ?_
  refine lv_iload_n hx hb dX3_passHouse_41 rfl (lv_at hl 4 rfl) ?_
  refine lv_iconst (v := 2) hx hb dX3_passHouse_42 (by decide) ?_
  obtain ⟨r16, e15, h⟩ := b1_e h
  refine cVi (as := [.int x2, .int 2]) (rest := [.int 0, .int 2, .int x2, .ref (wB ω + q1)]) (c_X7_get hq1 e15) C hl.1 hH hS rfl hq1.1 rfl wd_745 wd_744 mw_X7_get wd_770 rfl (rm_ok (by decide) (by decide)) (Nat.le_of_ble_eq_true rfl) ⟨Nat.zero_le _, Nat.zero_le _⟩ (by decide) dX3_passHouse_43 (fun H locs hH hS => ?_)
  refine lv_iload hx hb dX3_passHouse_46 (lv_at hl 0 rfl) ?_
  refine lv_isub hx hb dX3_passHouse_48 ?_
  refine h_mmax C hl.1 wd_761 (rest := [.int 2, .int x2, .ref (wB ω + q1)]) (Nat.le_of_ble_eq_true rfl) (Nat.le_of_ble_eq_true rfl) ⟨Nat.zero_le _, Nat.zero_le _⟩ dX3_passHouse_49 ?_
  refine h_topi (y := jmax 0 (r16 - y9)) rfl ?_
  obtain ⟨μ18, e17, h⟩ := b1_e h
  refine cVv (as := [.int x2, .int 2, .int (jmax 0 (r16 - y9))]) (rest := []) (c_X7_set hq1 e17) C hl.1 hH hS rfl hq1.1 rfl wd_721 wd_720 mw_X7_set wd_719 rfl (rm_ok (by decide) (by decide)) (Nat.le_of_ble_eq_true rfl) ⟨Nat.zero_le _, Nat.zero_le _⟩ (by decide) dX3_passHouse_52 (fun H locs hH hS => ?_)
  refine lv_aload_n hx hb dX3_passHouse_55 rfl (lv_at hl 3 rfl) ?_
  refine lv_iload_n hx hb dX3_passHouse_56 rfl (lv_at hl 4 rfl) ?_
  refine lv_bipush (v := 6) hx hb dX3_passHouse_57 (by decide) ?_
  refine lv_iconst (v := 0) hx hb dX3_passHouse_59 (by decide) ?_
  obtain ⟨μ20, e19, h⟩ := b1_e h
  refine cVv (as := [.int x2, .int 6, .int 0]) (rest := []) (c_X7_set hq1 e19) C hl.1 hH hS rfl hq1.1 rfl wd_721 wd_720 mw_X7_set wd_719 rfl (rm_ok (by decide) (by decide)) (Nat.le_of_ble_eq_true rfl) ⟨Nat.zero_le _, Nat.zero_le _⟩ (by decide) dX3_passHouse_60 (fun H locs hH hS => ?_)
  exact h_vret C hr hk hH hS (by cases h; rfl) dX3_passHouse_63
theorem c_X3_passHouse {l : Launch} {ω : WW} {q : Nat} {q1 : Nat} {x2 : Int32} (hq : IsQ ω q) (hq1 : IsS ω q1) {μ : Mem} {μo : Mem} (h : fX3_passHouse q q1 x2 μ = some μo) : Con l yX3_passHouse cX3_passHouse 5 none 4 ω [.ref (wB ω + q), .ref (wB ω + q1), .int x2] μ none μo :=
  con_of (by decide) (Nat.le_of_ble_eq_true rfl) (fun p e s m args below meth c ls C hr hk hl hH hS => wX3_passHouse_e hq hq1 C hr hk hH hS (lv_sub hl [0, 1, 2] rfl) h)
set_option maxHeartbeats 4000000 in
set_option maxRecDepth 100000 in
theorem wX11_daysTillNothing_s13 (hW : FWC ω) (C : Cx ω p s m args c cX11_daysTillNothing 4 RX11) (hr : meth.sig.returnType = some .int) (hk : meth.locks = false) {rr : Int32} {μo : Mem} {x1 : Int32} {x2 : Int32} {x3 : Int32} {rec : Int32 → Mem → Option (Int32 × Mem)} (hrec : ∀ (z3 : Int32) (ν : Mem) (H : Heap) (locs : List Loc) (ls : Array Slot), Hd ω ν H → FS ω s H locs → lv_has ls 4 [(0, .ref (wB ω + 1)), (1, .int x1), (2, .int x2), (3, .int z3)] → rec z3 ν = some (rr, μo) → W p l e (rmd 5) s m args below meth c H locs 0 0 (MQ below (QR ω (some (.int rr)) μo) args s 0 0 (wA ω)) (F0 m 13 ls [])) {μ : Mem} {H : Heap} {locs : List Loc} {ls : Array Slot} (hH : Hd ω μ H) (hS : FS ω s H locs) (hl : lv_has ls 4 [(0, .ref (wB ω + 1)), (1, .int x1), (2, .int x2), (3, .int x3)]) (h : fX11_daysTillNothing_s13 rec x1 x2 x3 μ = some (rr, μo)) : W p l e (rmd 5) s m args below meth c H locs 0 0 (MQ below (QR ω (some (.int rr)) μo) args s 0 0 (wA ω)) (F0 m 13 ls []) := by
  have hx := C.1
  have hb := C.2.1
  unfold fX11_daysTillNothing_s13 at h
  refine lv_iload_n hx hb dX11_daysTillNothing_13 rfl (lv_at hl 3 rfl) ?_
  refine lv_sipush (v := 200) hx hb dX11_daysTillNothing_14 (by decide) ?_
  refine lv_icmp_gt (tgt := 65) hx hb dX11_daysTillNothing_17 (by decide) (fun hc => ?_) (fun hc => ?_)
  · have h := ite_t hc h
    refine lv_bipush (v := (-2)) hx hb dX11_daysTillNothing_65 (by decide) ?_
    exact h_iret C hr hk hH hS rfl (by cases h; rfl) dX11_daysTillNothing_67
  · have h := ite_f hc h
    refine lv_aload_n hx hb dX11_daysTillNothing_20 rfl (lv_at hl 0 rfl) ?_
    refine g_478 (i := 26) C hH (jC_1 hW) rfl dX11_daysTillNothing_21 ?_
    refine lv_iload_n hx hb dX11_daysTillNothing_24 rfl (lv_at hl 1 rfl) ?_
    refine lv_iload_n hx hb dX11_daysTillNothing_25 rfl (lv_at hl 2 rfl) ?_
    obtain ⟨r4, e3, h⟩ := b1_e h
    refine cVi (as := [.int x1, .int x2]) (rest := []) (c_X7_get (sC_26 hW) e3) C hl.1 hH hS rfl (jC_26 hW) rfl wd_745 wd_744 mw_X7_get wd_743 rfl (rm_ok (by decide) (by decide)) (Nat.le_of_ble_eq_true rfl) ⟨Nat.zero_le _, Nat.zero_le _⟩ (by decide) dX11_daysTillNothing_26 (fun H locs hH hS => ?_)
    refine lv_if_ne (tgt := 34) hx hb dX11_daysTillNothing_29 (by decide) (fun hc => ?_) (fun hc => ?_)
    · have h := ite_f hc h
      refine lv_aload_n hx hb dX11_daysTillNothing_34 rfl (lv_at hl 0 rfl) ?_
      refine g_476 (i := 17) C hH (jC_1 hW) rfl dX11_daysTillNothing_35 ?_
      refine lv_aload_n hx hb dX11_daysTillNothing_38 rfl (lv_at hl 0 rfl) ?_
      refine g_478 (i := 26) C hH (jC_1 hW) rfl dX11_daysTillNothing_39 ?_
      refine lv_iload_n hx hb dX11_daysTillNothing_42 rfl (lv_at hl 1 rfl) ?_
      obtain ⟨μ6, e5, h⟩ := b1_e h
      refine cVv (as := [.ref (wB ω + 26), .int x1]) (rest := []) (c_X3_passHouse (qC_17 hW) (sC_26 hW) e5) C hl.1 hH hS rfl (jC_17 hW) rfl wd_866 wd_865 mw_X3_passHouse wd_986 rfl (rm_ok (by decide) (by decide)) (Nat.le_of_ble_eq_true rfl) ⟨Nat.zero_le _, Nat.zero_le _⟩ (by decide) dX11_daysTillNothing_43 (fun H locs hH hS => ?_)
      refine lv_aload_n hx hb dX11_daysTillNothing_46 rfl (lv_at hl 0 rfl) ?_
      refine g_478 (i := 26) C hH (jC_1 hW) rfl dX11_daysTillNothing_47 ?_
      refine lv_dup hx hb dX11_daysTillNothing_50 rfl ?_
      refine g_327 C hH (jC_26 hW) dX11_daysTillNothing_51 ?_
      refine lv_iconst (v := 1) hx hb dX11_daysTillNothing_54 (by decide) ?_
      refine lv_iadd hx hb dX11_daysTillNothing_55 ?_
      obtain ⟨μ7, e8, h⟩ := bd_e h
      refine p_327 C hH hS (jC_26 hW) dX11_daysTillNothing_56 (fun H locs hH hS => ?_)
      have hH := Hd.to e8 hH
      refine lv_iinc (v := x3 + 1) (lv' := [(3, .int (x3 + 1)), (0, .ref (wB ω + 1)), (1, .int x1), (2, .int x2)]) hx hb dX11_daysTillNothing_59 hl (k := 3) rfl rfl (by decide) rfl (fun ls hl => ?_)
      refine lv_goto (tgt := 13) hx hb dX11_daysTillNothing_62 (by decide) ?_
      exact hrec _ _ H locs ls hH hS (lv_sub hl [1, 2, 3, 0] rfl) h
    · have h := ite_t hc h
      refine lv_iload_n hx hb dX11_daysTillNothing_32 rfl (lv_at hl 3 rfl) ?_
      exact h_iret C hr hk hH hS rfl (by cases h; rfl) dX11_daysTillNothing_33
theorem wX11_daysTillNothing_l13 (hW : FWC ω) (C : Cx ω p s m args c cX11_daysTillNothing 4 RX11) (hr : meth.sig.returnType = some .int) (hk : meth.locks = false) {rr : Int32} {μo : Mem} {x1 : Int32} {x2 : Int32} : ∀ (n : Nat) (x3 : Int32) (μ : Mem) (H : Heap) (locs : List Loc) (ls : Array Slot), Hd ω μ H → FS ω s H locs → lv_has ls 4 [(0, .ref (wB ω + 1)), (1, .int x1), (2, .int x2), (3, .int x3)] → fX11_daysTillNothing_l13 x1 x2 n x3 μ = some (rr, μo) → W p l e (rmd 5) s m args below meth c H locs 0 0 (MQ below (QR ω (some (.int rr)) μo) args s 0 0 (wA ω)) (F0 m 13 ls []) := by
  intro n
  induction n with
  | zero => intro x3 μ H locs ls hH hS hl h; cases h
  | succ n ih => intro x3 μ H locs ls hH hS hl h; exact wX11_daysTillNothing_s13 hW C hr hk ih hH hS hl h
set_option maxHeartbeats 4000000 in
set_option maxRecDepth 100000 in
theorem wX11_daysTillNothing_e (hW : FWC ω) (C : Cx ω p s m args c cX11_daysTillNothing 4 RX11) (hr : meth.sig.returnType = some .int) (hk : meth.locks = false) {rr : Int32} {μo : Mem} {x1 : Int32} {x2 : Int32} {μ : Mem} {H : Heap} {locs : List Loc} {ls : Array Slot} (hH : Hd ω μ H) (hS : FS ω s H locs) (hl : lv_has ls 4 [(0, .ref (wB ω + 1)), (1, .int x1), (2, .int x2)]) (h : fX11_daysTillNothing x1 x2 μ = some (rr, μo)) : W p l e (rmd 5) s m args below meth c H locs 0 0 (MQ below (QR ω (some (.int rr)) μo) args s 0 0 (wA ω)) (F0 m 0 ls []) := by
  have hx := C.1
  have hb := C.2.1
  unfold fX11_daysTillNothing at h
  refine lv_aload_n hx hb dX11_daysTillNothing_0 rfl (lv_at hl 0 rfl) ?_
  refine g_478 (i := 26) C hH (jC_1 hW) rfl dX11_daysTillNothing_1 ?_
  refine lv_aload_n hx hb dX11_daysTillNothing_4 rfl (lv_at hl 0 rfl) ?_
  refine g_477 (i := 24) C hH (jC_1 hW) rfl dX11_daysTillNothing_5 ?_
  obtain ⟨μ2, e1, h⟩ := b1_e h
  refine cVv (as := [.ref (wB ω + 24)]) (rest := []) (c_X7_copyFrom (sC_26 hW) (sC_24 hW) e1) C hl.1 hH hS rfl (jC_26 hW) rfl wd_829 wd_828 mw_X7_copyFrom wd_919 rfl (rm_ok (by decide) (by decide)) (Nat.le_of_ble_eq_true rfl) ⟨Nat.zero_le _, Nat.zero_le _⟩ (by decide) dX11_daysTillNothing_8 (fun H locs hH hS => ?_)
  refine lv_iconst (v := 0) hx hb dX11_daysTillNothing_11 (by decide) ?_
  refine lv_istore_n (lv' := [(3, .int 0), (0, .ref (wB ω + 1)), (1, .int x1), (2, .int x2)]) hx hb dX11_daysTillNothing_12 rfl hl (by decide) rfl (fun ls hl => ?_)
  exact wX11_daysTillNothing_l13 hW C hr hk FU _ _ H locs ls hH hS (lv_sub hl [1, 2, 3, 0] rfl) h
theorem c_X11_daysTillNothing {l : Launch} {ω : WW} {x1 : Int32} {x2 : Int32} (hW : FWC ω) {μ : Mem} {rr : Int32} {μo : Mem} (h : fX11_daysTillNothing x1 x2 μ = some (rr, μo)) : Con l yX11_daysTillNothing cX11_daysTillNothing 4 (some .int) 5 ω [.ref (wB ω + 1), .int x1, .int x2] μ (some (.int rr)) μo :=
  con_of (by decide) (Nat.le_of_ble_eq_true rfl) (fun p e s m args below meth c ls C hr hk hl hH hS => wX11_daysTillNothing_e hW C hr hk hH hS (lv_sub hl [0, 1, 2] rfl) h)
set_option maxHeartbeats 4000000 in
set_option maxRecDepth 100000 in
theorem wX11_cold_e (hW : FWC ω) (C : Cx ω p s m args c cX11_cold 2 RX11) (hr : meth.sig.returnType = some .int) (hk : meth.locks = false) {rr : Int32} {μo : Mem} {x1 : Int32} {μ : Mem} {H : Heap} {locs : List Loc} {ls : Array Slot} (hH : Hd ω μ H) (hS : FS ω s H locs) (hl : lv_has ls 2 [(0, .ref (wB ω + 1)), (1, .int x1)]) (h : fX11_cold x1 μ = some (rr, μo)) : W p l e (rmd 6) s m args below meth c H locs 0 0 (MQ below (QR ω (some (.int rr)) μo) args s 0 0 (wA ω)) (F0 m 0 ls []) := by
  have hx := C.1
  have hb := C.2.1
  unfold fX11_cold at h
  refine lv_aload_n hx hb dX11_cold_0 rfl (lv_at hl 0 rfl) ?_
  refine lv_iload_n hx hb dX11_cold_1 rfl (lv_at hl 1 rfl) ?_
  obtain ⟨r2, e1, h⟩ := b1_e h
  refine cVi (as := [.int x1]) (rest := []) (c_X11_isHouse hW e1) C hl.1 hH hS rfl (jC_1 hW) rfl wd_15 wd_741 mw_X11_isHouse wd_739 rfl (rm_ok (by decide) (by decide)) (Nat.le_of_ble_eq_true rfl) ⟨Nat.zero_le _, Nat.zero_le _⟩ (by decide) dX11_cold_2 (fun H locs hH hS => ?_)
  refine lv_if_eq (tgt := 17) hx hb dX11_cold_5 (by decide) (fun hc => ?_) (fun hc => ?_)
  · have h := ite_t hc h
    refine lv_iconst (v := (-1)) hx hb dX11_cold_17 (by decide) ?_
    exact h_iret C hr hk hH hS rfl (by cases h; rfl) dX11_cold_18
  · have h := ite_f hc h
    refine lv_aload_n hx hb dX11_cold_8 rfl (lv_at hl 0 rfl) ?_
    refine lv_iload_n hx hb dX11_cold_9 rfl (lv_at hl 1 rfl) ?_
    refine lv_iconst (v := 2) hx hb dX11_cold_10 (by decide) ?_
    obtain ⟨r5, μ4, e3, h⟩ := b2_e h
    refine cVi (as := [.int x1, .int 2]) (rest := []) (c_X11_daysTillNothing hW e3) C hl.1 hH hS rfl (jC_1 hW) rfl wd_21 wd_984 mw_X11_daysTillNothing wd_982 rfl (rm_ok (by decide) (by decide)) (Nat.le_of_ble_eq_true rfl) ⟨Nat.zero_le _, Nat.zero_le _⟩ (by decide) dX11_cold_11 (fun H locs hH hS => ?_)
    refine lv_goto (tgt := 18) hx hb dX11_cold_14 (by decide) ?_
    exact h_iret C hr hk hH hS rfl (by cases h; rfl) dX11_cold_18
theorem c_X11_cold {l : Launch} {ω : WW} {x1 : Int32} (hW : FWC ω) {μ : Mem} {rr : Int32} {μo : Mem} (h : fX11_cold x1 μ = some (rr, μo)) : Con l yX11_cold cX11_cold 2 (some .int) 6 ω [.ref (wB ω + 1), .int x1] μ (some (.int rr)) μo :=
  con_of (by decide) (Nat.le_of_ble_eq_true rfl) (fun p e s m args below meth c ls C hr hk hl hH hS => wX11_cold_e hW C hr hk hH hS (lv_sub hl [0, 1] rfl) h)
set_option maxHeartbeats 4000000 in
set_option maxRecDepth 100000 in
theorem wX7_sumOf_s4 {q : Nat} (hq : IsS ω q) (C : Cx ω p s m args c cX7_sumOf 4 RX7) (hr : meth.sig.returnType = some .int) (hk : meth.locks = false) {rr : Int32} {μ : Mem} {x1 : Int32} {x2 : Int32} {x3 : Int32} {rec : Int32 → Int32 → Option Int32} (hrec : ∀ (z2 : Int32) (z3 : Int32) (H : Heap) (locs : List Loc) (ls : Array Slot), Hd ω μ H → FS ω s H locs → lv_has ls 4 [(0, .ref (wB ω + q)), (1, .int x1), (2, .int z2), (3, .int z3)] → rec z2 z3 = some rr → W p l e (rmd 2) s m args below meth c H locs 0 0 (MQ below (QR ω (some (.int rr)) μ) args s 0 0 (wA ω)) (F0 m 4 ls [])) {H : Heap} {locs : List Loc} {ls : Array Slot} (hH : Hd ω μ H) (hS : FS ω s H locs) (hl : lv_has ls 4 [(0, .ref (wB ω + q)), (1, .int x1), (2, .int x2), (3, .int x3)]) (h : fX7_sumOf_s4 rec q x1 x2 x3 μ = some rr) : W p l e (rmd 2) s m args below meth c H locs 0 0 (MQ below (QR ω (some (.int rr)) μ) args s 0 0 (wA ω)) (F0 m 4 ls []) := by
  have hx := C.1
  have hb := C.2.1
  unfold fX7_sumOf_s4 at h
  refine lv_iload_n hx hb dX7_sumOf_4 rfl (lv_at hl 3 rfl) ?_
  refine lv_bipush (v := 6) hx hb dX7_sumOf_5 (by decide) ?_
  refine lv_icmp_ge (tgt := 25) hx hb dX7_sumOf_7 (by decide) (fun hc => ?_) (fun hc => ?_)
  · have h := ite_t hc h
    refine lv_iload_n hx hb dX7_sumOf_25 rfl (lv_at hl 2 rfl) ?_
    exact h_iret C hr hk hH hS rfl (by cases h; rfl) dX7_sumOf_26
  · have h := ite_f hc h
    refine lv_iload_n hx hb dX7_sumOf_10 rfl (lv_at hl 2 rfl) ?_
    refine lv_aload_n hx hb dX7_sumOf_11 rfl (lv_at hl 0 rfl) ?_
    refine lv_iload_n hx hb dX7_sumOf_12 rfl (lv_at hl 3 rfl) ?_
    refine lv_iload_n hx hb dX7_sumOf_13 rfl (lv_at hl 1 rfl) ?_
    obtain ⟨r2, e1, h⟩ := b1_e h
    refine cVi (as := [.int x3, .int x1]) (rest := [.int x2]) (c_X7_get hq e1) C hl.1 hH hS rfl hq.1 rfl wd_745 wd_744 mw_X7_get wd_791 rfl (rm_ok (by decide) (by decide)) (Nat.le_of_ble_eq_true rfl) ⟨Nat.zero_le _, Nat.zero_le _⟩ (by decide) dX7_sumOf_14 (fun H locs hH hS => ?_)
    refine lv_iadd hx hb dX7_sumOf_17 ?_
    obtain ⟨y3, e4, h⟩ := bd_e h
    refine h_topi e4 ?_
    refine lv_istore_n (lv' := [(2, .int y3), (0, .ref (wB ω + q)), (1, .int x1), (3, .int x3)]) hx hb dX7_sumOf_18 rfl hl (by decide) rfl (fun ls hl => ?_)
    refine lv_iinc (v := x3 + 1) (lv' := [(3, .int (x3 + 1)), (2, .int y3), (0, .ref (wB ω + q)), (1, .int x1)]) hx hb dX7_sumOf_19 hl (k := 3) rfl rfl (by decide) rfl (fun ls hl => ?_)
    refine lv_goto (tgt := 4) hx hb dX7_sumOf_22 (by decide) ?_
    exact hrec _ _ H locs ls hH hS (lv_sub hl [2, 3, 1, 0] rfl) h
theorem wX7_sumOf_l4 {q : Nat} (hq : IsS ω q) (C : Cx ω p s m args c cX7_sumOf 4 RX7) (hr : meth.sig.returnType = some .int) (hk : meth.locks = false) {rr : Int32} {μ : Mem} {x1 : Int32} : ∀ (n : Nat) (x2 : Int32) (x3 : Int32) (H : Heap) (locs : List Loc) (ls : Array Slot), Hd ω μ H → FS ω s H locs → lv_has ls 4 [(0, .ref (wB ω + q)), (1, .int x1), (2, .int x2), (3, .int x3)] → fX7_sumOf_l4 q x1 μ n x2 x3 = some rr → W p l e (rmd 2) s m args below meth c H locs 0 0 (MQ below (QR ω (some (.int rr)) μ) args s 0 0 (wA ω)) (F0 m 4 ls []) := by
  intro n
  induction n with
  | zero => intro x2 x3 H locs ls hH hS hl h; cases h
  | succ n ih => intro x2 x3 H locs ls hH hS hl h; exact wX7_sumOf_s4 hq C hr hk ih hH hS hl h
set_option maxHeartbeats 4000000 in
set_option maxRecDepth 100000 in
theorem wX7_sumOf_e {q : Nat} (hq : IsS ω q) (C : Cx ω p s m args c cX7_sumOf 4 RX7) (hr : meth.sig.returnType = some .int) (hk : meth.locks = false) {rr : Int32} {μ : Mem} {x1 : Int32} {H : Heap} {locs : List Loc} {ls : Array Slot} (hH : Hd ω μ H) (hS : FS ω s H locs) (hl : lv_has ls 4 [(0, .ref (wB ω + q)), (1, .int x1)]) (h : fX7_sumOf q x1 μ = some rr) : W p l e (rmd 2) s m args below meth c H locs 0 0 (MQ below (QR ω (some (.int rr)) μ) args s 0 0 (wA ω)) (F0 m 0 ls []) := by
  have hx := C.1
  have hb := C.2.1
  unfold fX7_sumOf at h
  refine lv_iconst (v := 0) hx hb dX7_sumOf_0 (by decide) ?_
  refine lv_istore_n (lv' := [(2, .int 0), (0, .ref (wB ω + q)), (1, .int x1)]) hx hb dX7_sumOf_1 rfl hl (by decide) rfl (fun ls hl => ?_)
  refine lv_iconst (v := 0) hx hb dX7_sumOf_2 (by decide) ?_
  refine lv_istore_n (lv' := [(3, .int 0), (2, .int 0), (0, .ref (wB ω + q)), (1, .int x1)]) hx hb dX7_sumOf_3 rfl hl (by decide) rfl (fun ls hl => ?_)
  exact wX7_sumOf_l4 hq C hr hk FU _ _ H locs ls hH hS (lv_sub hl [2, 3, 1, 0] rfl) h
theorem c_X7_sumOf {l : Launch} {ω : WW} {q : Nat} {x1 : Int32} (hq : IsS ω q) {μ : Mem} {rr : Int32} (h : fX7_sumOf q x1 μ = some rr) : Con l yX7_sumOf cX7_sumOf 4 (some .int) 2 ω [.ref (wB ω + q), .int x1] μ (some (.int rr)) μ :=
  con_of (by decide) (Nat.le_of_ble_eq_true rfl) (fun p e s m args below meth c ls C hr hk hl hH hS => wX7_sumOf_e hq C hr hk hH hS (lv_sub hl [0, 1] rfl) h)
set_option maxHeartbeats 4000000 in
set_option maxRecDepth 100000 in
theorem wX7_bitsOf_s6 {q : Nat} (hq : IsS ω q) (C : Cx ω p s m args c cX7_bitsOf 6 RX7) (hr : meth.sig.returnType = some .int) (hk : meth.locks = false) {rr : Int32} {μ : Mem} {x1 : Int32} {x2 : Int32} {x3 : Int32} {x4 : Int32} {x5 : Int32} {rec : Int32 → Int32 → Option Int32} (hrec : ∀ (z4 : Int32) (z5 : Int32) (H : Heap) (locs : List Loc) (ls : Array Slot), Hd ω μ H → FS ω s H locs → lv_has ls 6 [(0, .ref (wB ω + q)), (1, .int x1), (2, .int x2), (3, .int x3), (4, .int z4), (5, .int z5)] → rec z4 z5 = some rr → W p l e (rmd 2) s m args below meth c H locs 0 0 (MQ below (QR ω (some (.int rr)) μ) args s 0 0 (wA ω)) (F0 m 6 ls [])) {H : Heap} {locs : List Loc} {ls : Array Slot} (hH : Hd ω μ H) (hS : FS ω s H locs) (hl : lv_has ls 6 [(0, .ref (wB ω + q)), (1, .int x1), (2, .int x2), (3, .int x3), (4, .int x4), (5, .int x5)]) (h : fX7_bitsOf_s6 rec q x1 x2 x3 x4 x5 μ = some rr) : W p l e (rmd 2) s m args below meth c H locs 0 0 (MQ below (QR ω (some (.int rr)) μ) args s 0 0 (wA ω)) (F0 m 6 ls []) := by
  have hx := C.1
  have hb := C.2.1
  unfold fX7_bitsOf_s6 at h
  refine lv_iload hx hb dX7_bitsOf_6 (lv_at hl 5 rfl) ?_
  refine lv_iload_n hx hb dX7_bitsOf_8 rfl (lv_at hl 3 rfl) ?_
  refine lv_icmp_ge (tgt := 38) hx hb dX7_bitsOf_9 (by decide) (fun hc => ?_) (fun hc => ?_)
  · have h := ite_t hc h
    refine lv_iload hx hb dX7_bitsOf_38 (lv_at hl 4 rfl) ?_
    exact h_iret C hr hk hH hS rfl (by cases h; rfl) dX7_bitsOf_40
  · have h := ite_f hc h
    refine lv_aload_n hx hb dX7_bitsOf_12 rfl (lv_at hl 0 rfl) ?_
    refine lv_iload hx hb dX7_bitsOf_13 (lv_at hl 5 rfl) ?_
    refine lv_iload_n hx hb dX7_bitsOf_15 rfl (lv_at hl 1 rfl) ?_
    obtain ⟨r2, e1, h⟩ := b1_e h
    refine cVi (as := [.int x5, .int x1]) (rest := []) (c_X7_get hq e1) C hl.1 hH hS rfl hq.1 rfl wd_745 wd_744 mw_X7_get wd_791 rfl (rm_ok (by decide) (by decide)) (Nat.le_of_ble_eq_true rfl) ⟨Nat.zero_le _, Nat.zero_le _⟩ (by decide) dX7_bitsOf_16 (fun H locs hH hS => ?_)
    refine lv_iload_n hx hb dX7_bitsOf_19 rfl (lv_at hl 2 rfl) ?_
    refine lv_icmp_ne (tgt := 32) hx hb dX7_bitsOf_20 (by decide) (fun hc => ?_) (fun hc => ?_)
    · have h := ite_f hc h
      refine lv_iinc (v := x5 + 1) (lv' := [(5, .int (x5 + 1)), (0, .ref (wB ω + q)), (1, .int x1), (2, .int x2), (3, .int x3), (4, .int x4)]) hx hb dX7_bitsOf_32 hl (k := 5) rfl rfl (by decide) rfl (fun ls hl => ?_)
      refine lv_goto (tgt := 6) hx hb dX7_bitsOf_35 (by decide) ?_
      exact hrec _ _ H locs ls hH hS (lv_sub hl [1, 2, 3, 4, 5, 0] rfl) h
    · have h := ite_t hc h
      refine lv_iload hx hb dX7_bitsOf_23 (lv_at hl 4 rfl) ?_
      refine lv_iconst (v := 1) hx hb dX7_bitsOf_25 (by decide) ?_
      refine lv_iload hx hb dX7_bitsOf_26 (lv_at hl 5 rfl) ?_
      refine lv_ishl hx hb dX7_bitsOf_28 ?_
      refine lv_ior hx hb dX7_bitsOf_29 ?_
      obtain ⟨y3, e4, h⟩ := bd_e h
      refine h_topi e4 ?_
      refine lv_istore (lv' := [(4, .int y3), (0, .ref (wB ω + q)), (1, .int x1), (2, .int x2), (3, .int x3), (5, .int x5)]) hx hb dX7_bitsOf_30 hl (by decide) rfl (fun ls hl => ?_)
      refine lv_iinc (v := x5 + 1) (lv' := [(5, .int (x5 + 1)), (4, .int y3), (0, .ref (wB ω + q)), (1, .int x1), (2, .int x2), (3, .int x3)]) hx hb dX7_bitsOf_32 hl (k := 5) rfl rfl (by decide) rfl (fun ls hl => ?_)
      refine lv_goto (tgt := 6) hx hb dX7_bitsOf_35 (by decide) ?_
      exact hrec _ _ H locs ls hH hS (lv_sub hl [2, 3, 4, 5, 1, 0] rfl) h
theorem wX7_bitsOf_l6 {q : Nat} (hq : IsS ω q) (C : Cx ω p s m args c cX7_bitsOf 6 RX7) (hr : meth.sig.returnType = some .int) (hk : meth.locks = false) {rr : Int32} {μ : Mem} {x1 : Int32} {x2 : Int32} {x3 : Int32} : ∀ (n : Nat) (x4 : Int32) (x5 : Int32) (H : Heap) (locs : List Loc) (ls : Array Slot), Hd ω μ H → FS ω s H locs → lv_has ls 6 [(0, .ref (wB ω + q)), (1, .int x1), (2, .int x2), (3, .int x3), (4, .int x4), (5, .int x5)] → fX7_bitsOf_l6 q x1 x2 x3 μ n x4 x5 = some rr → W p l e (rmd 2) s m args below meth c H locs 0 0 (MQ below (QR ω (some (.int rr)) μ) args s 0 0 (wA ω)) (F0 m 6 ls []) := by
  intro n
  induction n with
  | zero => intro x4 x5 H locs ls hH hS hl h; cases h
  | succ n ih => intro x4 x5 H locs ls hH hS hl h; exact wX7_bitsOf_s6 hq C hr hk ih hH hS hl h
set_option maxHeartbeats 4000000 in
set_option maxRecDepth 100000 in
theorem wX7_bitsOf_e {q : Nat} (hq : IsS ω q) (C : Cx ω p s m args c cX7_bitsOf 6 RX7) (hr : meth.sig.returnType = some .int) (hk : meth.locks = false) {rr : Int32} {μ : Mem} {x1 : Int32} {x2 : Int32} {x3 : Int32} {H : Heap} {locs : List Loc} {ls : Array Slot} (hH : Hd ω μ H) (hS : FS ω s H locs) (hl : lv_has ls 6 [(0, .ref (wB ω + q)), (1, .int x1), (2, .int x2), (3, .int x3)]) (h : fX7_bitsOf q x1 x2 x3 μ = some rr) : W p l e (rmd 2) s m args below meth c H locs 0 0 (MQ below (QR ω (some (.int rr)) μ) args s 0 0 (wA ω)) (F0 m 0 ls []) := by
  have hx := C.1
  have hb := C.2.1
  unfold fX7_bitsOf at h
  refine lv_iconst (v := 0) hx hb dX7_bitsOf_0 (by decide) ?_
  refine lv_istore (lv' := [(4, .int 0), (0, .ref (wB ω + q)), (1, .int x1), (2, .int x2), (3, .int x3)]) hx hb dX7_bitsOf_1 hl (by decide) rfl (fun ls hl => ?_)
  refine lv_iconst (v := 0) hx hb dX7_bitsOf_3 (by decide) ?_
  refine lv_istore (lv' := [(5, .int 0), (4, .int 0), (0, .ref (wB ω + q)), (1, .int x1), (2, .int x2), (3, .int x3)]) hx hb dX7_bitsOf_4 hl (by decide) rfl (fun ls hl => ?_)
  exact wX7_bitsOf_l6 hq C hr hk FU _ _ H locs ls hH hS (lv_sub hl [2, 3, 4, 5, 1, 0] rfl) h
theorem c_X7_bitsOf {l : Launch} {ω : WW} {q : Nat} {x1 : Int32} {x2 : Int32} {x3 : Int32} (hq : IsS ω q) {μ : Mem} {rr : Int32} (h : fX7_bitsOf q x1 x2 x3 μ = some rr) : Con l yX7_bitsOf cX7_bitsOf 6 (some .int) 2 ω [.ref (wB ω + q), .int x1, .int x2, .int x3] μ (some (.int rr)) μ :=
  con_of (by decide) (Nat.le_of_ble_eq_true rfl) (fun p e s m args below meth c ls C hr hk hl hH hS => wX7_bitsOf_e hq C hr hk hH hS (lv_sub hl [0, 1, 2, 3] rfl) h)
set_option maxHeartbeats 4000000 in
set_option maxRecDepth 100000 in
theorem wX3_mixed_e (C : Cx ω p s m args c cX3_mixed 3 RX3) (hr : meth.sig.returnType = some .int) (hk : meth.locks = false) {rr : Int32} {μ : Mem} {x0 : Int32} {x1 : Int32} {H : Heap} {locs : List Loc} {ls : Array Slot} (hH : Hd ω μ H) (hS : FS ω s H locs) (hl : lv_has ls 3 [(0, .int x0), (1, .int x1)]) (h : fX3_mixed x0 x1 = some rr) : W p l e (rmd 1) s m args below meth c H locs 0 0 (MQ below (QR ω (some (.int rr)) μ) args s 0 0 (wA ω)) (F0 m 0 ls []) := by
  have hx := C.1
  have hb := C.2.1
  unfold fX3_mixed at h
  refine lv_iload_n hx hb dX3_mixed_0 rfl (lv_at hl 0 rfl) ?_
  refine lv_iload_n hx hb dX3_mixed_1 rfl (lv_at hl 1 rfl) ?_
  refine lv_ixor hx hb dX3_mixed_2 ?_
  refine lv_ldc (v := 1103515245) hx hb C.2.2.2.1 (C.2.2.2.2.1 _ (tg wd_810 rfl)) dX3_mixed_3 ?_
  refine lv_imul hx hb dX3_mixed_5 ?_
  refine lv_sipush (v := 12345) hx hb dX3_mixed_6 (by decide) ?_
  refine lv_iadd hx hb dX3_mixed_9 ?_
  obtain ⟨y1, e2, h⟩ := bd_e h
  refine h_topi e2 ?_
  refine lv_istore_n (lv' := [(2, .int y1), (0, .int x0), (1, .int x1)]) hx hb dX3_mixed_10 rfl hl (by decide) rfl (fun ls hl => ?_)
  refine lv_iload_n hx hb dX3_mixed_11 rfl (lv_at hl 0 rfl) ?_
  refine lv_iload_n hx hb dX3_mixed_12 rfl (lv_at hl 0 rfl) ?_
  refine lv_bipush (v := 15) hx hb dX3_mixed_13 (by decide) ?_
  refine lv_iushr (v := ushr y1 15) hx hb dX3_mixed_15 rfl ?_
  refine lv_ixor hx hb dX3_mixed_16 ?_
  exact h_iret C hr hk hH hS rfl (by cases h; rfl) dX3_mixed_17
theorem c_X3_mixed {l : Launch} {ω : WW} {x0 : Int32} {x1 : Int32} {μ : Mem} {rr : Int32} (h : fX3_mixed x0 x1 = some rr) : Con l yX3_mixed cX3_mixed 3 (some .int) 1 ω [.int x0, .int x1] μ (some (.int rr)) μ :=
  con_of (by decide) (Nat.le_of_ble_eq_true rfl) (fun p e s m args below meth c ls C hr hk hl hH hS => wX3_mixed_e C hr hk hH hS (lv_sub hl [0, 1] rfl) h)
set_option maxHeartbeats 4000000 in
set_option maxRecDepth 100000 in
theorem wX3_lot_e (C : Cx ω p s m args c cX3_lot 4 RX3) (hr : meth.sig.returnType = some .int) (hk : meth.locks = false) {rr : Int32} {μ : Mem} {x0 : Int32} {x1 : Int32} {x2 : Int32} {H : Heap} {locs : List Loc} {ls : Array Slot} (hH : Hd ω μ H) (hS : FS ω s H locs) (hl : lv_has ls 4 [(0, .int x0), (1, .int x1), (2, .int x2)]) (h : fX3_lot x0 x1 x2 = some rr) : W p l e (rmd 2) s m args below meth c H locs 0 0 (MQ below (QR ω (some (.int rr)) μ) args s 0 0 (wA ω)) (F0 m 0 ls []) := by
  have hx := C.1
  have hb := C.2.1
  unfold fX3_lot at h
  refine lv_iload_n hx hb dX3_lot_0 rfl (lv_at hl 1 rfl) ?_
  refine lv_sipush (v := 177) hx hb dX3_lot_1 (by decide) ?_
  obtain ⟨r2, e1, h⟩ := b1_e h
  refine cSi (as := [.int x1, .int 177]) (rest := []) (c_X3_mixed e1) C hl.1 hH hS rfl wd_808 mw_X3_mixed wd_807 rfl (rm_ok (by decide) (by decide)) (Nat.le_of_ble_eq_true rfl) ⟨Nat.zero_le _, Nat.zero_le _⟩ dX3_lot_4 (fun H locs hH hS => ?_)
  refine lv_iload_n hx hb dX3_lot_7 rfl (lv_at hl 2 rfl) ?_
  obtain ⟨r4, e3, h⟩ := b1_e h
  refine cSi (as := [.int r2, .int x2]) (rest := []) (c_X3_mixed e3) C hl.1 hH hS rfl wd_808 mw_X3_mixed wd_807 rfl (rm_ok (by decide) (by decide)) (Nat.le_of_ble_eq_true rfl) ⟨Nat.zero_le _, Nat.zero_le _⟩ dX3_lot_8 (fun H locs hH hS => ?_)
  refine lv_istore_n (lv' := [(3, .int r4), (0, .int x0), (1, .int x1), (2, .int x2)]) hx hb dX3_lot_11 rfl hl (by decide) rfl (fun ls hl => ?_)
  refine lv_iload_n hx hb dX3_lot_12 rfl (lv_at hl 1 rfl) ?_
  refine lv_if_le (tgt := 24) hx hb dX3_lot_13 (by decide) (fun hc => ?_) (fun hc => ?_)
  · have h := ite_t hc h
    refine lv_iconst (v := 0) hx hb dX3_lot_24 (by decide) ?_
    exact h_iret C hr hk hH hS rfl (by cases h; rfl) dX3_lot_25
  · have h := ite_f hc h
    refine lv_iload_n hx hb dX3_lot_16 rfl (lv_at hl 0 rfl) ?_
    refine lv_iconst (v := 1) hx hb dX3_lot_17 (by decide) ?_
    refine lv_iushr (v := ushr r4 1) hx hb dX3_lot_18 rfl ?_
    refine lv_iload_n hx hb dX3_lot_19 rfl (lv_at hl 1 rfl) ?_
    obtain ⟨b5, h⟩ := gd_e h
    refine lv_irem hx hb dX3_lot_20 (dz_e b5) ?_
    refine lv_goto (tgt := 25) hx hb dX3_lot_21 (by decide) ?_
    exact h_iret C hr hk hH hS rfl (by cases h; rfl) dX3_lot_25
theorem c_X3_lot {l : Launch} {ω : WW} {x0 : Int32} {x1 : Int32} {x2 : Int32} {μ : Mem} {rr : Int32} (h : fX3_lot x0 x1 x2 = some rr) : Con l yX3_lot cX3_lot 4 (some .int) 2 ω [.int x0, .int x1, .int x2] μ (some (.int rr)) μ :=
  con_of (by decide) (Nat.le_of_ble_eq_true rfl) (fun p e s m args below meth c ls C hr hk hl hH hS => wX3_lot_e C hr hk hH hS (lv_sub hl [0, 1, 2] rfl) h)
set_option maxHeartbeats 4000000 in
set_option maxRecDepth 100000 in
theorem wX3_hails_e {q : Nat} (hq : IsQ ω q) (C : Cx ω p s m args c cX3_hails 3 RX3) (hr : meth.sig.returnType = some .boolean) (hk : meth.locks = false) {rr : Int32} {μ : Mem} {x1 : Int32} {x2 : Int32} {H : Heap} {locs : List Loc} {ls : Array Slot} (hH : Hd ω μ H) (hS : FS ω s H locs) (hl : lv_has ls 3 [(0, .ref (wB ω + q)), (1, .int x1), (2, .int x2)]) (h : fX3_hails q x1 x2 μ = some rr) : W p l e (rmd 3) s m args below meth c H locs 0 0 (MQ below (QR ω (some (.int rr)) μ) args s 0 0 (wA ω)) (F0 m 0 ls []) := by
  have hx := C.1
  have hb := C.2.1
  unfold fX3_hails at h
  refine lv_bipush (v := 100) hx hb dX3_hails_0 (by decide) ?_
  refine lv_iload_n hx hb dX3_hails_2 rfl (lv_at hl 1 rfl) ?_
  refine lv_iconst (v := 4) hx hb dX3_hails_3 (by decide) ?_
  refine lv_iload_n hx hb dX3_hails_4 rfl (lv_at hl 2 rfl) ?_
  refine lv_imul hx hb dX3_hails_5 ?_
  obtain ⟨r2, e1, h⟩ := b1_e h
  refine cSi (as := [.int 100, .int x1, .int (4 * x2)]) (rest := []) (c_X3_lot e1) C hl.1 hH hS rfl wd_805 mw_X3_lot wd_804 rfl (rm_ok (by decide) (by decide)) (Nat.le_of_ble_eq_true rfl) ⟨Nat.zero_le _, Nat.zero_le _⟩ dX3_hails_6 (fun H locs hH hS => ?_)
  refine lv_aload_n hx hb dX3_hails_9 rfl (lv_at hl 0 rfl) ?_
  refine g_273 C hH hq.1 dX3_hails_10 ?_
  refine lv_icmp_ge (tgt := 20) hx hb dX3_hails_13 (by decide) (fun hc => ?_) (fun hc => ?_)
  · have h := ite_t hc h
    refine lv_iconst (v := 0) hx hb dX3_hails_20 (by decide) ?_
    exact h_zret (y := 0) C hr hk hH hS rfl (by cases h; rfl) dX3_hails_21
  · have h := ite_f hc h
    refine lv_iconst (v := 1) hx hb dX3_hails_16 (by decide) ?_
    refine lv_goto (tgt := 21) hx hb dX3_hails_17 (by decide) ?_
    exact h_zret (y := 1) C hr hk hH hS rfl (by cases h; rfl) dX3_hails_21
theorem c_X3_hails {l : Launch} {ω : WW} {q : Nat} {x1 : Int32} {x2 : Int32} (hq : IsQ ω q) {μ : Mem} {rr : Int32} (h : fX3_hails q x1 x2 μ = some rr) : Con l yX3_hails cX3_hails 3 (some .boolean) 3 ω [.ref (wB ω + q), .int x1, .int x2] μ (some (.int rr)) μ :=
  con_of (by decide) (Nat.le_of_ble_eq_true rfl) (fun p e s m args below meth c ls C hr hk hl hH hS => wX3_hails_e hq C hr hk hH hS (lv_sub hl [0, 1, 2] rfl) h)
set_option maxHeartbeats 4000000 in
set_option maxRecDepth 100000 in
theorem wX11_lossOfAll_s4 (hW : FWC ω) (C : Cx ω p s m args c cX11_lossOfAll 3 RX11) (hr : meth.sig.returnType = some .int) (hk : meth.locks = false) {rr : Int32} {μo : Mem} {x1 : Int32} {x2 : Int32} {rec : Int32 → Int32 → Mem → Option (Int32 × Mem)} (hrec : ∀ (z1 : Int32) (z2 : Int32) (ν : Mem) (H : Heap) (locs : List Loc) (ls : Array Slot), Hd ω ν H → FS ω s H locs → lv_has ls 3 [(0, .ref (wB ω + 1)), (1, .int z1), (2, .int z2)] → rec z1 z2 ν = some (rr, μo) → W p l e (rmd 4) s m args below meth c H locs 0 0 (MQ below (QR ω (some (.int rr)) μo) args s 0 0 (wA ω)) (F0 m 4 ls [])) {μ : Mem} {H : Heap} {locs : List Loc} {ls : Array Slot} (hH : Hd ω μ H) (hS : FS ω s H locs) (hl : lv_has ls 3 [(0, .ref (wB ω + 1)), (1, .int x1), (2, .int x2)]) (h : fX11_lossOfAll_s4 rec x1 x2 μ = some (rr, μo)) : W p l e (rmd 4) s m args below meth c H locs 0 0 (MQ below (QR ω (some (.int rr)) μo) args s 0 0 (wA ω)) (F0 m 4 ls []) := by
  have hx := C.1
  have hb := C.2.1
  unfold fX11_lossOfAll_s4 at h
  refine lv_iload_n hx hb dX11_lossOfAll_4 rfl (lv_at hl 2 rfl) ?_
  refine lv_aload_n hx hb dX11_lossOfAll_5 rfl (lv_at hl 0 rfl) ?_
  refine g_476 (i := 17) C hH (jC_1 hW) rfl dX11_lossOfAll_6 ?_
  refine g_265 C hH (jC_17 hW) dX11_lossOfAll_9 ?_
  refine lv_icmp_ge (tgt := 36) hx hb dX11_lossOfAll_12 (by decide) (fun hc => ?_) (fun hc => ?_)
  · have h := ite_t hc h
    refine lv_iload_n hx hb dX11_lossOfAll_36 rfl (lv_at hl 1 rfl) ?_
    exact h_iret C hr hk hH hS rfl (by cases h; rfl) dX11_lossOfAll_37
  · have h := ite_f hc h
    refine lv_iload_n hx hb dX11_lossOfAll_15 rfl (lv_at hl 1 rfl) ?_
    refine lv_aload_n hx hb dX11_lossOfAll_16 rfl (lv_at hl 0 rfl) ?_
    refine g_476 (i := 17) C hH (jC_1 hW) rfl dX11_lossOfAll_17 ?_
    refine lv_aload_n hx hb dX11_lossOfAll_20 rfl (lv_at hl 0 rfl) ?_
    refine g_477 (i := 24) C hH (jC_1 hW) rfl dX11_lossOfAll_21 ?_
    refine lv_iload_n hx hb dX11_lossOfAll_24 rfl (lv_at hl 2 rfl) ?_
    obtain ⟨r3, μ2, e1, h⟩ := b2_e h
    refine cVi (as := [.ref (wB ω + 24), .int x2]) (rest := [.int x1]) (c_X3_fades (qC_17 hW) (sC_24 hW) e1) C hl.1 hH hS rfl (jC_17 hW) rfl wd_768 wd_767 mw_X3_fades wd_766 rfl (rm_ok (by decide) (by decide)) (Nat.le_of_ble_eq_true rfl) ⟨Nat.zero_le _, Nat.zero_le _⟩ (by decide) dX11_lossOfAll_25 (fun H locs hH hS => ?_)
    refine lv_iadd hx hb dX11_lossOfAll_28 ?_
    obtain ⟨y4, e5, h⟩ := bd_e h
    refine h_topi e5 ?_
    refine lv_istore_n (lv' := [(1, .int y4), (0, .ref (wB ω + 1)), (2, .int x2)]) hx hb dX11_lossOfAll_29 rfl hl (by decide) rfl (fun ls hl => ?_)
    refine lv_iinc (v := x2 + 1) (lv' := [(2, .int (x2 + 1)), (1, .int y4), (0, .ref (wB ω + 1))]) hx hb dX11_lossOfAll_30 hl (k := 2) rfl rfl (by decide) rfl (fun ls hl => ?_)
    refine lv_goto (tgt := 4) hx hb dX11_lossOfAll_33 (by decide) ?_
    exact hrec _ _ _ H locs ls hH hS (lv_sub hl [2, 1, 0] rfl) h
theorem wX11_lossOfAll_l4 (hW : FWC ω) (C : Cx ω p s m args c cX11_lossOfAll 3 RX11) (hr : meth.sig.returnType = some .int) (hk : meth.locks = false) {rr : Int32} {μo : Mem} : ∀ (n : Nat) (x1 : Int32) (x2 : Int32) (μ : Mem) (H : Heap) (locs : List Loc) (ls : Array Slot), Hd ω μ H → FS ω s H locs → lv_has ls 3 [(0, .ref (wB ω + 1)), (1, .int x1), (2, .int x2)] → fX11_lossOfAll_l4 n x1 x2 μ = some (rr, μo) → W p l e (rmd 4) s m args below meth c H locs 0 0 (MQ below (QR ω (some (.int rr)) μo) args s 0 0 (wA ω)) (F0 m 4 ls []) := by
  intro n
  induction n with
  | zero => intro x1 x2 μ H locs ls hH hS hl h; cases h
  | succ n ih => intro x1 x2 μ H locs ls hH hS hl h; exact wX11_lossOfAll_s4 hW C hr hk ih hH hS hl h
set_option maxHeartbeats 4000000 in
set_option maxRecDepth 100000 in
theorem wX11_lossOfAll_e (hW : FWC ω) (C : Cx ω p s m args c cX11_lossOfAll 3 RX11) (hr : meth.sig.returnType = some .int) (hk : meth.locks = false) {rr : Int32} {μo : Mem} {μ : Mem} {H : Heap} {locs : List Loc} {ls : Array Slot} (hH : Hd ω μ H) (hS : FS ω s H locs) (hl : lv_has ls 3 [(0, .ref (wB ω + 1))]) (h : fX11_lossOfAll μ = some (rr, μo)) : W p l e (rmd 4) s m args below meth c H locs 0 0 (MQ below (QR ω (some (.int rr)) μo) args s 0 0 (wA ω)) (F0 m 0 ls []) := by
  have hx := C.1
  have hb := C.2.1
  unfold fX11_lossOfAll at h
  refine lv_iconst (v := 0) hx hb dX11_lossOfAll_0 (by decide) ?_
  refine lv_istore_n (lv' := [(1, .int 0), (0, .ref (wB ω + 1))]) hx hb dX11_lossOfAll_1 rfl hl (by decide) rfl (fun ls hl => ?_)
  refine lv_iconst (v := 0) hx hb dX11_lossOfAll_2 (by decide) ?_
  refine lv_istore_n (lv' := [(2, .int 0), (1, .int 0), (0, .ref (wB ω + 1))]) hx hb dX11_lossOfAll_3 rfl hl (by decide) rfl (fun ls hl => ?_)
  exact wX11_lossOfAll_l4 hW C hr hk FU _ _ _ H locs ls hH hS (lv_sub hl [2, 1, 0] rfl) h
theorem c_X11_lossOfAll {l : Launch} {ω : WW} (hW : FWC ω) {μ : Mem} {rr : Int32} {μo : Mem} (h : fX11_lossOfAll μ = some (rr, μo)) : Con l yX11_lossOfAll cX11_lossOfAll 3 (some .int) 4 ω [.ref (wB ω + 1)] μ (some (.int rr)) μo :=
  con_of (by decide) (Nat.le_of_ble_eq_true rfl) (fun p e s m args below meth c ls C hr hk hl hH hS => wX11_lossOfAll_e hW C hr hk hH hS (lv_sub hl [0] rfl) h)
set_option maxHeartbeats 4000000 in
set_option maxRecDepth 100000 in
theorem wX11_count_e (hW : FWC ω) (C : Cx ω p s m args c cX11_count 2 RX11) (hr : meth.sig.returnType = some .int) (hk : meth.locks = false) {rr : Int32} {μo : Mem} {x1 : Int32} {μ : Mem} {H : Heap} {locs : List Loc} {ls : Array Slot} (hH : Hd ω μ H) (hS : FS ω s H locs) (hl : lv_has ls 2 [(0, .ref (wB ω + 1)), (1, .int x1)]) (h : fX11_count x1 μ = some (rr, μo)) : W p l e (rmd 5) s m args below meth c H locs 0 0 (MQ below (QR ω (some (.int rr)) μo) args s 0 0 (wA ω)) (F0 m 0 ls []) := by
  have hx := C.1
  have hb := C.2.1
  unfold fX11_count at h
  refine lv_iload_n hx hb dX11_count_0 rfl (lv_at hl 1 rfl) ?_
  by_cases b1 : x1 = 0
  · have h := ite_t b1 h
    refine lv_tableIn (tgt := 96) (off := 95) hx hb dX11_count_1 (by rw [b1]; decide) (by rw [b1]; decide) (by rw [b1]; rfl) (by decide) ?_
    refine lv_aload_n hx hb dX11_count_96 rfl (lv_at hl 0 rfl) ?_
    refine g_476 (i := 17) C hH (jC_1 hW) rfl dX11_count_97 ?_
    refine g_265 C hH (jC_17 hW) dX11_count_100 ?_
    exact h_iret C hr hk hH hS rfl (by cases h; rfl) dX11_count_103
  have h := ite_f b1 h
  by_cases b2 : x1 = 1
  · have h := ite_t b2 h
    refine lv_tableIn (tgt := 104) (off := 103) hx hb dX11_count_1 (by rw [b2]; decide) (by rw [b2]; decide) (by rw [b2]; rfl) (by decide) ?_
    refine lv_aload_n hx hb dX11_count_104 rfl (lv_at hl 0 rfl) ?_
    refine g_477 (i := 24) C hH (jC_1 hW) rfl dX11_count_105 ?_
    refine g_327 C hH (jC_24 hW) dX11_count_108 ?_
    exact h_iret C hr hk hH hS rfl (by cases h; rfl) dX11_count_111
  have h := ite_f b2 h
  by_cases b3 : x1 = 2
  · have h := ite_t b3 h
    refine lv_tableIn (tgt := 112) (off := 111) hx hb dX11_count_1 (by rw [b3]; decide) (by rw [b3]; decide) (by rw [b3]; rfl) (by decide) ?_
    refine lv_aload_n hx hb dX11_count_112 rfl (lv_at hl 0 rfl) ?_
    refine g_477 (i := 24) C hH (jC_1 hW) rfl dX11_count_113 ?_
    refine g_328 C hH (jC_24 hW) dX11_count_116 ?_
    exact h_iret C hr hk hH hS rfl (by cases h; rfl) dX11_count_119
  have h := ite_f b3 h
  by_cases b6 : x1 = 3
  · have h := ite_t b6 h
    refine lv_tableIn (tgt := 120) (off := 119) hx hb dX11_count_1 (by rw [b6]; decide) (by rw [b6]; decide) (by rw [b6]; rfl) (by decide) ?_
    refine lv_aload_n hx hb dX11_count_120 rfl (lv_at hl 0 rfl) ?_
    refine g_477 (i := 24) C hH (jC_1 hW) rfl dX11_count_121 ?_
    refine lv_iconst (v := 3) hx hb dX11_count_124 (by decide) ?_
    obtain ⟨r5, e4, h⟩ := b1_e h
    refine cVi (as := [.int 3]) (rest := []) (c_X7_sumOf (sC_24 hW) e4) C hl.1 hH hS rfl (jC_24 hW) rfl wd_789 wd_788 mw_X7_sumOf wd_787 rfl (rm_ok (by decide) (by decide)) (Nat.le_of_ble_eq_true rfl) ⟨Nat.zero_le _, Nat.zero_le _⟩ (by decide) dX11_count_125 (fun H locs hH hS => ?_)
    exact h_iret C hr hk hH hS rfl (by cases h; rfl) dX11_count_128
  have h := ite_f b6 h
  by_cases b9 : x1 = 4
  · have h := ite_t b9 h
    refine lv_tableIn (tgt := 129) (off := 128) hx hb dX11_count_1 (by rw [b9]; decide) (by rw [b9]; decide) (by rw [b9]; rfl) (by decide) ?_
    refine lv_aload_n hx hb dX11_count_129 rfl (lv_at hl 0 rfl) ?_
    refine g_477 (i := 24) C hH (jC_1 hW) rfl dX11_count_130 ?_
    refine lv_iconst (v := 2) hx hb dX11_count_133 (by decide) ?_
    obtain ⟨r8, e7, h⟩ := b1_e h
    refine cVi (as := [.int 2]) (rest := []) (c_X7_sumOf (sC_24 hW) e7) C hl.1 hH hS rfl (jC_24 hW) rfl wd_789 wd_788 mw_X7_sumOf wd_787 rfl (rm_ok (by decide) (by decide)) (Nat.le_of_ble_eq_true rfl) ⟨Nat.zero_le _, Nat.zero_le _⟩ (by decide) dX11_count_134 (fun H locs hH hS => ?_)
    exact h_iret C hr hk hH hS rfl (by cases h; rfl) dX11_count_137
  have h := ite_f b9 h
  by_cases b12 : x1 = 5
  · have h := ite_t b12 h
    refine lv_tableIn (tgt := 138) (off := 137) hx hb dX11_count_1 (by rw [b12]; decide) (by rw [b12]; decide) (by rw [b12]; rfl) (by decide) ?_
    refine lv_aload_n hx hb dX11_count_138 rfl (lv_at hl 0 rfl) ?_
    refine g_477 (i := 24) C hH (jC_1 hW) rfl dX11_count_139 ?_
    refine lv_iconst (v := 1) hx hb dX11_count_142 (by decide) ?_
    obtain ⟨r11, e10, h⟩ := b1_e h
    refine cVi (as := [.int 1]) (rest := []) (c_X7_sumOf (sC_24 hW) e10) C hl.1 hH hS rfl (jC_24 hW) rfl wd_789 wd_788 mw_X7_sumOf wd_787 rfl (rm_ok (by decide) (by decide)) (Nat.le_of_ble_eq_true rfl) ⟨Nat.zero_le _, Nat.zero_le _⟩ (by decide) dX11_count_143 (fun H locs hH hS => ?_)
    exact h_iret C hr hk hH hS rfl (by cases h; rfl) dX11_count_146
  have h := ite_f b12 h
  by_cases b15 : x1 = 6
  · have h := ite_t b15 h
    refine lv_tableIn (tgt := 147) (off := 146) hx hb dX11_count_1 (by rw [b15]; decide) (by rw [b15]; decide) (by rw [b15]; rfl) (by decide) ?_
    refine lv_aload_n hx hb dX11_count_147 rfl (lv_at hl 0 rfl) ?_
    refine g_477 (i := 24) C hH (jC_1 hW) rfl dX11_count_148 ?_
    refine lv_iconst (v := 4) hx hb dX11_count_151 (by decide) ?_
    refine lv_iconst (v := 1) hx hb dX11_count_152 (by decide) ?_
    refine lv_aload_n hx hb dX11_count_153 rfl (lv_at hl 0 rfl) ?_
    refine g_476 (i := 17) C hH (jC_1 hW) rfl dX11_count_154 ?_
    refine g_265 C hH (jC_17 hW) dX11_count_157 ?_
    obtain ⟨r14, e13, h⟩ := b1_e h
    refine cVi (as := [.int 4, .int 1, .int (μ.1 17 2)]) (rest := []) (c_X7_bitsOf (sC_24 hW) e13) C hl.1 hH hS rfl (jC_24 hW) rfl wd_794 wd_793 mw_X7_bitsOf wd_792 rfl (rm_ok (by decide) (by decide)) (Nat.le_of_ble_eq_true rfl) ⟨Nat.zero_le _, Nat.zero_le _⟩ (by decide) dX11_count_160 (fun H locs hH hS => ?_)
    exact h_iret C hr hk hH hS rfl (by cases h; rfl) dX11_count_163
  have h := ite_f b15 h
  by_cases b18 : x1 = 7
  · have h := ite_t b18 h
    refine lv_tableIn (tgt := 164) (off := 163) hx hb dX11_count_1 (by rw [b18]; decide) (by rw [b18]; decide) (by rw [b18]; rfl) (by decide) ?_
    refine lv_aload_n hx hb dX11_count_164 rfl (lv_at hl 0 rfl) ?_
    refine g_477 (i := 24) C hH (jC_1 hW) rfl dX11_count_165 ?_
    refine lv_iconst (v := 3) hx hb dX11_count_168 (by decide) ?_
    refine lv_iconst (v := 0) hx hb dX11_count_169 (by decide) ?_
    refine lv_aload_n hx hb dX11_count_170 rfl (lv_at hl 0 rfl) ?_
    refine g_476 (i := 17) C hH (jC_1 hW) rfl dX11_count_171 ?_
    refine g_265 C hH (jC_17 hW) dX11_count_174 ?_
    obtain ⟨r17, e16, h⟩ := b1_e h
    refine cVi (as := [.int 3, .int 0, .int (μ.1 17 2)]) (rest := []) (c_X7_bitsOf (sC_24 hW) e16) C hl.1 hH hS rfl (jC_24 hW) rfl wd_794 wd_793 mw_X7_bitsOf wd_792 rfl (rm_ok (by decide) (by decide)) (Nat.le_of_ble_eq_true rfl) ⟨Nat.zero_le _, Nat.zero_le _⟩ (by decide) dX11_count_177 (fun H locs hH hS => ?_)
    exact h_iret C hr hk hH hS rfl (by cases h; rfl) dX11_count_180
  have h := ite_f b18 h
  by_cases b19 : x1 = 8
  · have h := ite_t b19 h
    refine lv_tableIn (tgt := 181) (off := 180) hx hb dX11_count_1 (by rw [b19]; decide) (by rw [b19]; decide) (by rw [b19]; rfl) (by decide) ?_
    refine lv_aload_n hx hb dX11_count_181 rfl (lv_at hl 0 rfl) ?_
    refine g_489 C hH (jC_1 hW) dX11_count_182 ?_
    exact h_iret C hr hk hH hS rfl (by cases h; rfl) dX11_count_185
  have h := ite_f b19 h
  by_cases b20 : x1 = 9
  · have h := ite_t b20 h
    refine lv_tableIn (tgt := 186) (off := 185) hx hb dX11_count_1 (by rw [b20]; decide) (by rw [b20]; decide) (by rw [b20]; rfl) (by decide) ?_
    refine lv_aload_n hx hb dX11_count_186 rfl (lv_at hl 0 rfl) ?_
    refine g_480 (i := 30) C hH (jC_1 hW) rfl dX11_count_187 ?_
    refine g_362 C hH (jC_30 hW) dX11_count_190 ?_
    exact h_iret C hr hk hH hS rfl (by cases h; rfl) dX11_count_193
  have h := ite_f b20 h
  by_cases b21 : x1 = 10
  · have h := ite_t b21 h
    refine lv_tableIn (tgt := 194) (off := 193) hx hb dX11_count_1 (by rw [b21]; decide) (by rw [b21]; decide) (by rw [b21]; rfl) (by decide) ?_
    refine lv_aload_n hx hb dX11_count_194 rfl (lv_at hl 0 rfl) ?_
    refine g_487 (i := 186) C hH (jC_1 hW) rfl dX11_count_195 ?_
    refine g_464 C hH (jC_186 hW) dX11_count_198 ?_
    exact h_iret C hr hk hH hS rfl (by cases h; rfl) dX11_count_201
  have h := ite_f b21 h
  by_cases b24 : x1 = 11
  · have h := ite_t b24 h
    refine lv_tableIn (tgt := 202) (off := 201) hx hb dX11_count_1 (by rw [b24]; decide) (by rw [b24]; decide) (by rw [b24]; rfl) (by decide) ?_
    refine lv_aload_n hx hb dX11_count_202 rfl (lv_at hl 0 rfl) ?_
    refine g_480 (i := 30) C hH (jC_1 hW) rfl dX11_count_203 ?_
    obtain ⟨r23, e22, h⟩ := b1_e h
    refine cVi (as := []) (rest := []) (c_X0_heldSlots hW e22) C hl.1 hH hS rfl (jC_30 hW) rfl wd_798 wd_797 mw_X0_heldSlots wd_796 rfl (rm_ok (by decide) (by decide)) (Nat.le_of_ble_eq_true rfl) ⟨Nat.zero_le _, Nat.zero_le _⟩ (by decide) dX11_count_206 (fun H locs hH hS => ?_)
    exact h_iret C hr hk hH hS rfl (by cases h; rfl) dX11_count_209
  have h := ite_f b24 h
  by_cases b27 : x1 = 12
  · have h := ite_t b27 h
    refine lv_tableIn (tgt := 210) (off := 209) hx hb dX11_count_1 (by rw [b27]; decide) (by rw [b27]; decide) (by rw [b27]; rfl) (by decide) ?_
    refine lv_aload_n hx hb dX11_count_210 rfl (lv_at hl 0 rfl) ?_
    refine g_476 (i := 17) C hH (jC_1 hW) rfl dX11_count_211 ?_
    refine lv_aload_n hx hb dX11_count_214 rfl (lv_at hl 0 rfl) ?_
    refine g_476 (i := 17) C hH (jC_1 hW) rfl dX11_count_215 ?_
    refine g_277 C hH (jC_17 hW) dX11_count_218 ?_
    refine lv_aload_n hx hb dX11_count_221 rfl (lv_at hl 0 rfl) ?_
    refine g_477 (i := 24) C hH (jC_1 hW) rfl dX11_count_222 ?_
    refine g_327 C hH (jC_24 hW) dX11_count_225 ?_
    obtain ⟨r26, e25, h⟩ := b1_e h
    refine cVi (as := [.int (μ.1 17 6), .int (μ.1 24 1)]) (rest := []) (c_X3_hails (qC_17 hW) e25) C hl.1 hH hS rfl (jC_17 hW) rfl wd_802 wd_801 mw_X3_hails wd_800 rfl (rm_ok (by decide) (by decide)) (Nat.le_of_ble_eq_true rfl) ⟨Nat.zero_le _, Nat.zero_le _⟩ (by decide) dX11_count_228 (fun H locs hH hS => ?_)
    refine lv_if_eq (tgt := 238) hx hb dX11_count_231 (by decide) (fun hc => ?_) (fun hc => ?_)
    · have h := ite_t hc h
      refine lv_iconst (v := 0) hx hb dX11_count_238 (by decide) ?_
      exact h_iret C hr hk hH hS rfl (by cases h; rfl) dX11_count_239
    · have h := ite_f hc h
      refine lv_iconst (v := 1) hx hb dX11_count_234 (by decide) ?_
      refine lv_goto (tgt := 239) hx hb dX11_count_235 (by decide) ?_
      exact h_iret C hr hk hH hS rfl (by cases h; rfl) dX11_count_239
  have h := ite_f b27 h
  by_cases b31 : x1 = 13
  · have h := ite_t b31 h
    refine lv_tableIn (tgt := 240) (off := 239) hx hb dX11_count_1 (by rw [b31]; decide) (by rw [b31]; decide) (by rw [b31]; rfl) (by decide) ?_
    refine lv_aload_n hx hb dX11_count_240 rfl (lv_at hl 0 rfl) ?_
    obtain ⟨r30, μ29, e28, h⟩ := b2_e h
    refine cVi (as := []) (rest := []) (c_X11_lossOfAll hW e28) C hl.1 hH hS rfl (jC_1 hW) rfl wd_16 wd_813 mw_X11_lossOfAll wd_811 rfl (rm_ok (by decide) (by decide)) (Nat.le_of_ble_eq_true rfl) ⟨Nat.zero_le _, Nat.zero_le _⟩ (by decide) dX11_count_241 (fun H locs hH hS => ?_)
    exact h_iret C hr hk hH hS rfl (by cases h; rfl) dX11_count_244
  have h := ite_f b31 h
  by_cases b32 : x1 = 14
  · have h := ite_t b32 h
    refine lv_tableIn (tgt := 245) (off := 244) hx hb dX11_count_1 (by rw [b32]; decide) (by rw [b32]; decide) (by rw [b32]; rfl) (by decide) ?_
    refine lv_aload_n hx hb dX11_count_245 rfl (lv_at hl 0 rfl) ?_
    refine g_477 (i := 24) C hH (jC_1 hW) rfl dX11_count_246 ?_
    refine g_333 C hH (jC_24 hW) dX11_count_249 ?_
    exact h_iret C hr hk hH hS rfl (by cases h; rfl) dX11_count_252
  have h := ite_f b32 h
  by_cases b35 : x1 = 15
  · have h := ite_t b35 h
    refine lv_tableIn (tgt := 253) (off := 252) hx hb dX11_count_1 (by rw [b35]; decide) (by rw [b35]; decide) (by rw [b35]; rfl) (by decide) ?_
    refine lv_aload_n hx hb dX11_count_253 rfl (lv_at hl 0 rfl) ?_
    refine g_477 (i := 24) C hH (jC_1 hW) rfl dX11_count_254 ?_
    refine lv_iconst (v := 0) hx hb dX11_count_257 (by decide) ?_
    obtain ⟨r34, e33, h⟩ := b1_e h
    refine cVi (as := [.int 0]) (rest := []) (c_X7_sumOf (sC_24 hW) e33) C hl.1 hH hS rfl (jC_24 hW) rfl wd_789 wd_788 mw_X7_sumOf wd_787 rfl (rm_ok (by decide) (by decide)) (Nat.le_of_ble_eq_true rfl) ⟨Nat.zero_le _, Nat.zero_le _⟩ (by decide) dX11_count_258 (fun H locs hH hS => ?_)
    exact h_iret C hr hk hH hS rfl (by cases h; rfl) dX11_count_261
  have h := ite_f b35 h
  by_cases b36 : x1 = 16
  · have h := ite_t b36 h
    refine lv_tableIn (tgt := 262) (off := 261) hx hb dX11_count_1 (by rw [b36]; decide) (by rw [b36]; decide) (by rw [b36]; rfl) (by decide) ?_
    refine lv_aload_n hx hb dX11_count_262 rfl (lv_at hl 0 rfl) ?_
    refine g_477 (i := 24) C hH (jC_1 hW) rfl dX11_count_263 ?_
    refine g_336 C hH (jC_24 hW) dX11_count_266 ?_
    exact h_iret C hr hk hH hS rfl (by cases h; rfl) dX11_count_269
  have h := ite_f b36 h
  by_cases b39 : x1 = 17
  · have h := ite_t b39 h
    refine lv_tableIn (tgt := 270) (off := 269) hx hb dX11_count_1 (by rw [b39]; decide) (by rw [b39]; decide) (by rw [b39]; rfl) (by decide) ?_
    refine lv_aload_n hx hb dX11_count_270 rfl (lv_at hl 0 rfl) ?_
    refine g_477 (i := 24) C hH (jC_1 hW) rfl dX11_count_271 ?_
    refine lv_iconst (v := 2) hx hb dX11_count_274 (by decide) ?_
    refine lv_iconst (v := 0) hx hb dX11_count_275 (by decide) ?_
    refine lv_aload_n hx hb dX11_count_276 rfl (lv_at hl 0 rfl) ?_
    refine g_476 (i := 17) C hH (jC_1 hW) rfl dX11_count_277 ?_
    refine g_265 C hH (jC_17 hW) dX11_count_280 ?_
    obtain ⟨r38, e37, h⟩ := b1_e h
    refine cVi (as := [.int 2, .int 0, .int (μ.1 17 2)]) (rest := []) (c_X7_bitsOf (sC_24 hW) e37) C hl.1 hH hS rfl (jC_24 hW) rfl wd_794 wd_793 mw_X7_bitsOf wd_792 rfl (rm_ok (by decide) (by decide)) (Nat.le_of_ble_eq_true rfl) ⟨Nat.zero_le _, Nat.zero_le _⟩ (by decide) dX11_count_283 (fun H locs hH hS => ?_)
    exact h_iret C hr hk hH hS rfl (by cases h; rfl) dX11_count_286
  have h := ite_f b39 h
  by_cases b40 : x1 = 18
  · have h := ite_t b40 h
    refine lv_tableIn (tgt := 287) (off := 286) hx hb dX11_count_1 (by rw [b40]; decide) (by rw [b40]; decide) (by rw [b40]; rfl) (by decide) ?_
    refine lv_aload_n hx hb dX11_count_287 rfl (lv_at hl 0 rfl) ?_
    refine g_476 (i := 17) C hH (jC_1 hW) rfl dX11_count_288 ?_
    refine g_272 C hH (jC_17 hW) dX11_count_291 ?_
    exact h_iret C hr hk hH hS rfl (by cases h; rfl) dX11_count_294
  have h := ite_f b40 h
  by_cases b43 : x1 = 19
  · have h := ite_t b43 h
    refine lv_tableIn (tgt := 295) (off := 294) hx hb dX11_count_1 (by rw [b43]; decide) (by rw [b43]; decide) (by rw [b43]; rfl) (by decide) ?_
    refine lv_aload_n hx hb dX11_count_295 rfl (lv_at hl 0 rfl) ?_
    refine g_477 (i := 24) C hH (jC_1 hW) rfl dX11_count_296 ?_
    refine lv_bipush (v := 6) hx hb dX11_count_299 (by decide) ?_
    obtain ⟨r42, e41, h⟩ := b1_e h
    refine cVi (as := [.int 6]) (rest := []) (c_X7_sumOf (sC_24 hW) e41) C hl.1 hH hS rfl (jC_24 hW) rfl wd_789 wd_788 mw_X7_sumOf wd_787 rfl (rm_ok (by decide) (by decide)) (Nat.le_of_ble_eq_true rfl) ⟨Nat.zero_le _, Nat.zero_le _⟩ (by decide) dX11_count_301 (fun H locs hH hS => ?_)
    exact h_iret C hr hk hH hS rfl (by cases h; rfl) dX11_count_304
  have h := ite_f b43 h
  have b1 := ne_ti (z := 0) b1 (by decide)
  have b2 := ne_ti (z := 1) b2 (by decide)
  have b3 := ne_ti (z := 2) b3 (by decide)
  have b6 := ne_ti (z := 3) b6 (by decide)
  have b9 := ne_ti (z := 4) b9 (by decide)
  have b12 := ne_ti (z := 5) b12 (by decide)
  have b15 := ne_ti (z := 6) b15 (by decide)
  have b18 := ne_ti (z := 7) b18 (by decide)
  have b19 := ne_ti (z := 8) b19 (by decide)
  have b20 := ne_ti (z := 9) b20 (by decide)
  have b21 := ne_ti (z := 10) b21 (by decide)
  have b24 := ne_ti (z := 11) b24 (by decide)
  have b27 := ne_ti (z := 12) b27 (by decide)
  have b31 := ne_ti (z := 13) b31 (by decide)
  have b32 := ne_ti (z := 14) b32 (by decide)
  have b35 := ne_ti (z := 15) b35 (by decide)
  have b36 := ne_ti (z := 16) b36 (by decide)
  have b39 := ne_ti (z := 17) b39 (by decide)
  have b40 := ne_ti (z := 18) b40 (by decide)
  have b43 := ne_ti (z := 19) b43 (by decide)
  refine lv_tableOut (tgt := 305) hx hb dX11_count_1 (by omega) (by decide) ?_
  refine lv_iconst (v := (-1)) hx hb dX11_count_305 (by decide) ?_
  exact h_iret C hr hk hH hS rfl (by cases h; rfl) dX11_count_306
theorem c_X11_count {l : Launch} {ω : WW} {x1 : Int32} (hW : FWC ω) {μ : Mem} {rr : Int32} {μo : Mem} (h : fX11_count x1 μ = some (rr, μo)) : Con l yX11_count cX11_count 2 (some .int) 5 ω [.ref (wB ω + 1), .int x1] μ (some (.int rr)) μo :=
  con_of (by decide) (Nat.le_of_ble_eq_true rfl) (fun p e s m args below meth c ls C hr hk hl hH hS => wX11_count_e hW C hr hk hH hS (lv_sub hl [0, 1] rfl) h)
set_option maxHeartbeats 4000000 in
set_option maxRecDepth 100000 in
theorem wX11_cut_e (hW : FWC ω) (C : Cx ω p s m args c cX11_cut 5 RX11) (hr : meth.sig.returnType = some .int) (hk : meth.locks = false) {rr : Int32} {μo : Mem} {x1 : Int32} {x2 : Int32} {μ : Mem} {H : Heap} {locs : List Loc} {ls : Array Slot} (hH : Hd ω μ H) (hS : FS ω s H locs) (hl : lv_has ls 5 [(0, .ref (wB ω + 1)), (1, .int x1), (2, .int x2)]) (h : fX11_cut x1 x2 μ = some (rr, μo)) : W p l e (rmd 4) s m args below meth c H locs 0 0 (MQ below (QR ω (some (.int rr)) μo) args s 0 0 (wA ω)) (F0 m 0 ls []) := by
  have hx := C.1
  have hb := C.2.1
  unfold fX11_cut at h
  refine lv_aload_n hx hb dX11_cut_0 rfl (lv_at hl 0 rfl) ?_
  refine lv_iload_n hx hb dX11_cut_1 rfl (lv_at hl 1 rfl) ?_
  obtain ⟨r2, e1, h⟩ := b1_e h
  refine cVi (as := [.int x1]) (rest := []) (c_X11_isHouse hW e1) C hl.1 hH hS rfl (jC_1 hW) rfl wd_15 wd_741 mw_X11_isHouse wd_739 rfl (rm_ok (by decide) (by decide)) (Nat.le_of_ble_eq_true rfl) ⟨Nat.zero_le _, Nat.zero_le _⟩ (by decide) dX11_cut_2 (fun H locs hH hS => ?_)
  refine lv_if_eq (tgt := 21) hx hb dX11_cut_5 (by decide) (fun hc => ?_) (fun hc => ?_)
  · have h := ite_t hc h
    refine lv_iconst (v := (-1)) hx hb dX11_cut_21 (by decide) ?_
    exact h_iret C hr hk hH hS rfl (by cases h; rfl) dX11_cut_22
  · have h := ite_f hc h
    refine lv_aload_n hx hb dX11_cut_8 rfl (lv_at hl 0 rfl) ?_
    refine lv_iload_n hx hb dX11_cut_9 rfl (lv_at hl 2 rfl) ?_
    obtain ⟨r4, e3, h⟩ := b1_e h
    refine cVi (as := [.int x2]) (rest := []) (c_X11_isHouse hW e3) C hl.1 hH hS rfl (jC_1 hW) rfl wd_15 wd_741 mw_X11_isHouse wd_739 rfl (rm_ok (by decide) (by decide)) (Nat.le_of_ble_eq_true rfl) ⟨Nat.zero_le _, Nat.zero_le _⟩ (by decide) dX11_cut_10 (fun H locs hH hS => ?_)
    refine lv_if_eq (tgt := 21) hx hb dX11_cut_13 (by decide) (fun hc => ?_) (fun hc => ?_)
    · have h := ite_t hc h
      refine lv_iconst (v := (-1)) hx hb dX11_cut_21 (by decide) ?_
      exact h_iret C hr hk hH hS rfl (by cases h; rfl) dX11_cut_22
    · have h := ite_f hc h
      refine lv_iload_n hx hb dX11_cut_16 rfl (lv_at hl 1 rfl) ?_
      refine lv_iload_n hx hb dX11_cut_17 rfl (lv_at hl 2 rfl) ?_
      refine lv_icmp_ne (tgt := 23) hx hb dX11_cut_18 (by decide) (fun hc => ?_) (fun hc => ?_)
      · have h := ite_f hc h
        refine lv_aload_n hx hb dX11_cut_23 rfl (lv_at hl 0 rfl) ?_
        refine g_480 (i := 30) C hH (jC_1 hW) rfl dX11_cut_24 ?_
        refine lv_aload_n hx hb dX11_cut_27 rfl (lv_at hl 0 rfl) ?_
        refine g_477 (i := 24) C hH (jC_1 hW) rfl dX11_cut_28 ?_
        obtain ⟨μ6, e5, h⟩ := b1_e h
        refine cVv (as := [.ref (wB ω + 24)]) (rest := []) (c_X0_push hW (sC_24 hW) e5) C hl.1 hH hS rfl (jC_30 hW) rfl wd_825 wd_824 mw_X0_push wd_823 rfl (rm_ok (by decide) (by decide)) (Nat.le_of_ble_eq_true rfl) ⟨Nat.zero_le _, Nat.zero_le _⟩ (by decide) dX11_cut_31 (fun H locs hH hS => ?_)
        refine lv_aload_n hx hb dX11_cut_34 rfl (lv_at hl 0 rfl) ?_
        refine g_477 (i := 24) C hH (jC_1 hW) rfl dX11_cut_35 ?_
        refine lv_iload_n hx hb dX11_cut_38 rfl (lv_at hl 1 rfl) ?_
        refine lv_iconst (v := 3) hx hb dX11_cut_39 (by decide) ?_
        obtain ⟨r8, e7, h⟩ := b1_e h
        refine cVi (as := [.int x1, .int 3]) (rest := []) (c_X7_get (sC_24 hW) e7) C hl.1 hH hS rfl (jC_24 hW) rfl wd_745 wd_744 mw_X7_get wd_743 rfl (rm_ok (by decide) (by decide)) (Nat.le_of_ble_eq_true rfl) ⟨Nat.zero_le _, Nat.zero_le _⟩ (by decide) dX11_cut_40 (fun H locs hH hS => ?_)
        refine lv_istore_n (lv' := [(3, .int r8), (0, .ref (wB ω + 1)), (1, .int x1), (2, .int x2)]) hx hb dX11_cut_43 rfl hl (by decide) rfl (fun ls hl => ?_)
        refine lv_iload_n hx hb dX11_cut_44 rfl (lv_at hl 0 rfl) ?_
        refine lv_bipush (v := 10) hx hb dX11_cut_45 (by decide) ?_
        refine lv_idiv hx hb dX11_cut_47 (by decide) ?_
        obtain ⟨y9, e10, h⟩ := bd_e h
        refine h_topi e10 ?_
        refine lv_istore (lv' := [(4, .int y9), (3, .int r8), (0, .ref (wB ω + 1)), (1, .int x1), (2, .int x2)]) hx hb dX11_cut_48 hl (by decide) rfl (fun ls hl => ?_)
        refine lv_aload_n hx hb dX11_cut_50 rfl (lv_at hl 2 rfl) ?_
        refine g_477 (i := 24) C hH (jC_1 hW) rfl dX11_cut_51 ?_
        refine lv_iload_n hx hb dX11_cut_54 rfl (lv_at hl 3 rfl) ?_
        refine lv_iconst (v := 3) hx hb dX11_cut_55 (by decide) ?_
        refine lv_iload_n hx hb dX11_cut_56 rfl (lv_at hl 1 rfl) ?_
        refine lv_iload hx hb dX11_cut_57 (lv_at hl 0 rfl) ?_
        refine lv_isub hx hb dX11_cut_59 ?_
        obtain ⟨μ12, e11, h⟩ := b1_e h
        refine cVv (as := [.int x1, .int 3, .int (r8 - y9)]) (rest := []) (c_X7_set (sC_24 hW) e11) C hl.1 hH hS rfl (jC_24 hW) rfl wd_721 wd_720 mw_X7_set wd_842 rfl (rm_ok (by decide) (by decide)) (Nat.le_of_ble_eq_true rfl) ⟨Nat.zero_le _, Nat.zero_le _⟩ (by decide) dX11_cut_60 (fun H locs hH hS => ?_)
        refine lv_aload_n hx hb dX11_cut_63 rfl (lv_at hl 2 rfl) ?_
        refine g_477 (i := 24) C hH (jC_1 hW) rfl dX11_cut_64 ?_
        refine lv_iload_n hx hb dX11_cut_67 rfl (lv_at hl 4 rfl) ?_
        refine lv_iconst (v := 3) hx hb dX11_cut_68 (by decide) ?_
        refine lv_sipush (v := 999) hx hb dX11_cut_69 (by decide) ?_
        refine lv_aload_n hx hb dX11_cut_72 rfl (lv_at hl 2 rfl) ?_
        refine g_477 (i := 24) C hH (jC_1 hW) rfl dX11_cut_73 ?_
        refine lv_iload_n hx hb dX11_cut_76 rfl (lv_at hl 4 rfl) ?_
        refine lv_iconst (v := 3) hx hb dX11_cut_77 (by decide) ?_
        obtain ⟨r14, e13, h⟩ := b1_e h
        refine cVi (as := [.int x2, .int 3]) (rest := [.int 999, .int 3, .int x2, .ref (wB ω + 24)]) (c_X7_get (sC_24 hW) e13) C hl.1 hH hS rfl (jC_24 hW) rfl wd_745 wd_744 mw_X7_get wd_743 rfl (rm_ok (by decide) (by decide)) (Nat.le_of_ble_eq_true rfl) ⟨Nat.zero_le _, Nat.zero_le _⟩ (by decide) dX11_cut_78 (fun H locs hH hS => ?_)
        refine lv_iload hx hb dX11_cut_81 (lv_at hl 0 rfl) ?_
        refine lv_iadd hx hb dX11_cut_83 ?_
        refine h_mmin C hl.1 wd_851 (rest := [.int 3, .int x2, .ref (wB ω + 24)]) (Nat.le_of_ble_eq_true rfl) (Nat.le_of_ble_eq_true rfl) ⟨Nat.zero_le _, Nat.zero_le _⟩ dX11_cut_84 ?_
        refine h_topi (y := jmin 999 (r14 + y9)) rfl ?_
        obtain ⟨μ16, e15, h⟩ := b1_e h
        refine cVv (as := [.int x2, .int 3, .int (jmin 999 (r14 + y9))]) (rest := []) (c_X7_set (sC_24 hW) e15) C hl.1 hH hS rfl (jC_24 hW) rfl wd_721 wd_720 mw_X7_set wd_842 rfl (rm_ok (by decide) (by decide)) (Nat.le_of_ble_eq_true rfl) ⟨Nat.zero_le _, Nat.zero_le _⟩ (by decide) dX11_cut_87 (fun H locs hH hS => ?_)
        refine lv_aload_n hx hb dX11_cut_90 rfl (lv_at hl 2 rfl) ?_
        refine g_477 (i := 24) C hH (jC_1 hW) rfl dX11_cut_91 ?_
        refine lv_iload_n hx hb dX11_cut_94 rfl (lv_at hl 4 rfl) ?_
        refine lv_iconst (v := 5) hx hb dX11_cut_95 (by decide) ?_
        refine lv_aload_n hx hb dX11_cut_96 rfl (lv_at hl 2 rfl) ?_
        refine g_477 (i := 24) C hH (jC_1 hW) rfl dX11_cut_97 ?_
        refine lv_iload_n hx hb dX11_cut_100 rfl (lv_at hl 4 rfl) ?_
        refine lv_iconst (v := 5) hx hb dX11_cut_101 (by decide) ?_
        obtain ⟨r18, e17, h⟩ := b1_e h
        refine cVi (as := [.int x2, .int 5]) (rest := [.int 5, .int x2, .ref (wB ω + 24)]) (c_X7_get (sC_24 hW) e17) C hl.1 hH hS rfl (jC_24 hW) rfl wd_745 wd_744 mw_X7_get wd_743 rfl (rm_ok (by decide) (by decide)) (Nat.le_of_ble_eq_true rfl) ⟨Nat.zero_le _, Nat.zero_le _⟩ (by decide) dX11_cut_102 (fun H locs hH hS => ?_)
        refine lv_iconst (v := 1) hx hb dX11_cut_105 (by decide) ?_
        refine lv_iadd hx hb dX11_cut_106 ?_
        obtain ⟨μ20, e19, h⟩ := b1_e h
        refine cVv (as := [.int x2, .int 5, .int (r18 + 1)]) (rest := []) (c_X7_set (sC_24 hW) e19) C hl.1 hH hS rfl (jC_24 hW) rfl wd_721 wd_720 mw_X7_set wd_842 rfl (rm_ok (by decide) (by decide)) (Nat.le_of_ble_eq_true rfl) ⟨Nat.zero_le _, Nat.zero_le _⟩ (by decide) dX11_cut_107 (fun H locs hH hS => ?_)
        refine lv_aload_n hx hb dX11_cut_110 rfl (lv_at hl 2 rfl) ?_
        refine g_477 (i := 24) C hH (jC_1 hW) rfl dX11_cut_111 ?_
        refine lv_dup hx hb dX11_cut_114 rfl ?_
        refine g_336 C hH (jC_24 hW) dX11_cut_115 ?_
        refine lv_iconst (v := 1) hx hb dX11_cut_118 (by decide) ?_
        refine lv_iadd hx hb dX11_cut_119 ?_
        obtain ⟨μ21, e22, h⟩ := bd_e h
        refine p_336 C hH hS (jC_24 hW) dX11_cut_120 (fun H locs hH hS => ?_)
        have hH := Hd.to e22 hH
        refine lv_iload hx hb dX11_cut_123 (lv_at hl 0 rfl) ?_
        exact h_iret C hr hk hH hS rfl (by cases h; rfl) dX11_cut_125
      · have h := ite_t hc h
        refine lv_iconst (v := (-1)) hx hb dX11_cut_21 (by decide) ?_
        exact h_iret C hr hk hH hS rfl (by cases h; rfl) dX11_cut_22
theorem c_X11_cut {l : Launch} {ω : WW} {x1 : Int32} {x2 : Int32} (hW : FWC ω) {μ : Mem} {rr : Int32} {μo : Mem} (h : fX11_cut x1 x2 μ = some (rr, μo)) : Con l yX11_cut cX11_cut 5 (some .int) 4 ω [.ref (wB ω + 1), .int x1, .int x2] μ (some (.int rr)) μo :=
  con_of (by decide) (Nat.le_of_ble_eq_true rfl) (fun p e s m args below meth c ls C hr hk hl hH hS => wX11_cut_e hW C hr hk hH hS (lv_sub hl [0, 1, 2] rfl) h)
set_option maxHeartbeats 4000000 in
set_option maxRecDepth 100000 in
theorem wX3_passDay_s2 {q : Nat} {q1 : Nat} (hq : IsQ ω q) (hq1 : IsS ω q1) (C : Cx ω p s m args c cX3_passDay 3 RX3) (hr : meth.sig.returnType = none) (hk : meth.locks = false) {μo : Mem} {x2 : Int32} {rec : Int32 → Mem → Option Mem} (hrec : ∀ (z2 : Int32) (ν : Mem) (H : Heap) (locs : List Loc) (ls : Array Slot), Hd ω ν H → FS ω s H locs → lv_has ls 3 [(0, .ref (wB ω + q)), (1, .ref (wB ω + q1)), (2, .int z2)] → rec z2 ν = some μo → W p l e (rmd 5) s m args below meth c H locs 0 0 (MQ below (QR ω none μo) args s 0 0 (wA ω)) (F0 m 2 ls [])) {μ : Mem} {H : Heap} {locs : List Loc} {ls : Array Slot} (hH : Hd ω μ H) (hS : FS ω s H locs) (hl : lv_has ls 3 [(0, .ref (wB ω + q)), (1, .ref (wB ω + q1)), (2, .int x2)]) (h : fX3_passDay_s2 rec q q1 x2 μ = some μo) : W p l e (rmd 5) s m args below meth c H locs 0 0 (MQ below (QR ω none μo) args s 0 0 (wA ω)) (F0 m 2 ls []) := by
  have hx := C.1
  have hb := C.2.1
  unfold fX3_passDay_s2 at h
  refine lv_iload_n hx hb dX3_passDay_2 rfl (lv_at hl 2 rfl) ?_
  refine lv_aload_n hx hb dX3_passDay_3 rfl (lv_at hl 0 rfl) ?_
  refine g_261 C hH hq.1 dX3_passDay_4 ?_
  refine lv_icmp_ge (tgt := 22) hx hb dX3_passDay_7 (by decide) (fun hc => ?_) (fun hc => ?_)
  · have h := ite_t hc h
    exact h_vret C hr hk hH hS (by cases h; rfl) dX3_passDay_22
  · have h := ite_f hc h
    refine lv_aload_n hx hb dX3_passDay_10 rfl (lv_at hl 0 rfl) ?_
    refine lv_aload_n hx hb dX3_passDay_11 rfl (lv_at hl 1 rfl) ?_
    refine lv_iload_n hx hb dX3_passDay_12 rfl (lv_at hl 2 rfl) ?_
    obtain ⟨μ2, e1, h⟩ := b1_e h
    refine cVv (as := [.ref (wB ω + q1), .int x2]) (rest := []) (c_X3_passHouse hq hq1 e1) C hl.1 hH hS rfl hq.1 rfl wd_866 wd_865 mw_X3_passHouse wd_864 rfl (rm_ok (by decide) (by decide)) (Nat.le_of_ble_eq_true rfl) ⟨Nat.zero_le _, Nat.zero_le _⟩ (by decide) dX3_passDay_13 (fun H locs hH hS => ?_)
    refine lv_iinc (v := x2 + 1) (lv' := [(2, .int (x2 + 1)), (0, .ref (wB ω + q)), (1, .ref (wB ω + q1))]) hx hb dX3_passDay_16 hl (k := 2) rfl rfl (by decide) rfl (fun ls hl => ?_)
    refine lv_goto (tgt := 2) hx hb dX3_passDay_19 (by decide) ?_
    exact hrec _ _ H locs ls hH hS (lv_sub hl [1, 2, 0] rfl) h
theorem wX3_passDay_l2 {q : Nat} {q1 : Nat} (hq : IsQ ω q) (hq1 : IsS ω q1) (C : Cx ω p s m args c cX3_passDay 3 RX3) (hr : meth.sig.returnType = none) (hk : meth.locks = false) {μo : Mem} : ∀ (n : Nat) (x2 : Int32) (μ : Mem) (H : Heap) (locs : List Loc) (ls : Array Slot), Hd ω μ H → FS ω s H locs → lv_has ls 3 [(0, .ref (wB ω + q)), (1, .ref (wB ω + q1)), (2, .int x2)] → fX3_passDay_l2 q q1 n x2 μ = some μo → W p l e (rmd 5) s m args below meth c H locs 0 0 (MQ below (QR ω none μo) args s 0 0 (wA ω)) (F0 m 2 ls []) := by
  intro n
  induction n with
  | zero => intro x2 μ H locs ls hH hS hl h; cases h
  | succ n ih => intro x2 μ H locs ls hH hS hl h; exact wX3_passDay_s2 hq hq1 C hr hk ih hH hS hl h
set_option maxHeartbeats 4000000 in
set_option maxRecDepth 100000 in
theorem wX3_passDay_e {q : Nat} {q1 : Nat} (hq : IsQ ω q) (hq1 : IsS ω q1) (C : Cx ω p s m args c cX3_passDay 3 RX3) (hr : meth.sig.returnType = none) (hk : meth.locks = false) {μo : Mem} {μ : Mem} {H : Heap} {locs : List Loc} {ls : Array Slot} (hH : Hd ω μ H) (hS : FS ω s H locs) (hl : lv_has ls 3 [(0, .ref (wB ω + q)), (1, .ref (wB ω + q1))]) (h : fX3_passDay q q1 μ = some μo) : W p l e (rmd 5) s m args below meth c H locs 0 0 (MQ below (QR ω none μo) args s 0 0 (wA ω)) (F0 m 0 ls []) := by
  have hx := C.1
  have hb := C.2.1
  unfold fX3_passDay at h
  refine lv_iconst (v := 0) hx hb dX3_passDay_0 (by decide) ?_
  refine lv_istore_n (lv' := [(2, .int 0), (0, .ref (wB ω + q)), (1, .ref (wB ω + q1))]) hx hb dX3_passDay_1 rfl hl (by decide) rfl (fun ls hl => ?_)
  exact wX3_passDay_l2 hq hq1 C hr hk FU _ _ H locs ls hH hS (lv_sub hl [1, 2, 0] rfl) h
theorem c_X3_passDay {l : Launch} {ω : WW} {q : Nat} {q1 : Nat} (hq : IsQ ω q) (hq1 : IsS ω q1) {μ : Mem} {μo : Mem} (h : fX3_passDay q q1 μ = some μo) : Con l yX3_passDay cX3_passDay 3 none 5 ω [.ref (wB ω + q), .ref (wB ω + q1)] μ none μo :=
  con_of (by decide) (Nat.le_of_ble_eq_true rfl) (fun p e s m args below meth c ls C hr hk hl hH hS => wX3_passDay_e hq hq1 C hr hk hH hS (lv_sub hl [0, 1] rfl) h)
set_option maxHeartbeats 4000000 in
set_option maxRecDepth 100000 in
theorem wX3_struckHouse_e {q : Nat} (hq : IsQ ω q) (C : Cx ω p s m args c cX3_struckHouse 3 RX3) (hr : meth.sig.returnType = some .int) (hk : meth.locks = false) {rr : Int32} {μ : Mem} {x1 : Int32} {x2 : Int32} {H : Heap} {locs : List Loc} {ls : Array Slot} (hH : Hd ω μ H) (hS : FS ω s H locs) (hl : lv_has ls 3 [(0, .ref (wB ω + q)), (1, .int x1), (2, .int x2)]) (h : fX3_struckHouse q x1 x2 μ = some rr) : W p l e (rmd 4) s m args below meth c H locs 0 0 (MQ below (QR ω (some (.int rr)) μ) args s 0 0 (wA ω)) (F0 m 0 ls []) := by
  have hx := C.1
  have hb := C.2.1
  unfold fX3_struckHouse at h
  refine lv_aload_n hx hb dX3_struckHouse_0 rfl (lv_at hl 0 rfl) ?_
  refine g_261 C hH hq.1 dX3_struckHouse_1 ?_
  refine lv_if_le (tgt := 32) hx hb dX3_struckHouse_4 (by decide) (fun hc => ?_) (fun hc => ?_)
  · have h := ite_t hc h
    refine lv_iconst (v := (-1)) hx hb dX3_struckHouse_32 (by decide) ?_
    exact h_iret C hr hk hH hS rfl (by cases h; rfl) dX3_struckHouse_33
  · have h := ite_f hc h
    refine lv_aload_n hx hb dX3_struckHouse_7 rfl (lv_at hl 0 rfl) ?_
    refine lv_iload_n hx hb dX3_struckHouse_8 rfl (lv_at hl 1 rfl) ?_
    refine lv_iload_n hx hb dX3_struckHouse_9 rfl (lv_at hl 2 rfl) ?_
    obtain ⟨r2, e1, h⟩ := b1_e h
    refine cVi (as := [.int x1, .int x2]) (rest := []) (c_X3_hails hq e1) C hl.1 hH hS rfl hq.1 rfl wd_802 wd_801 mw_X3_hails wd_882 rfl (rm_ok (by decide) (by decide)) (Nat.le_of_ble_eq_true rfl) ⟨Nat.zero_le _, Nat.zero_le _⟩ (by decide) dX3_struckHouse_10 (fun H locs hH hS => ?_)
    refine lv_if_eq (tgt := 32) hx hb dX3_struckHouse_13 (by decide) (fun hc => ?_) (fun hc => ?_)
    · have h := ite_t hc h
      refine lv_iconst (v := (-1)) hx hb dX3_struckHouse_32 (by decide) ?_
      exact h_iret C hr hk hH hS rfl (by cases h; rfl) dX3_struckHouse_33
    · have h := ite_f hc h
      refine lv_aload_n hx hb dX3_struckHouse_16 rfl (lv_at hl 0 rfl) ?_
      refine g_261 C hH hq.1 dX3_struckHouse_17 ?_
      refine lv_iload_n hx hb dX3_struckHouse_20 rfl (lv_at hl 1 rfl) ?_
      refine lv_iconst (v := 4) hx hb dX3_struckHouse_21 (by decide) ?_
      refine lv_iload_n hx hb dX3_struckHouse_22 rfl (lv_at hl 2 rfl) ?_
      refine lv_imul hx hb dX3_struckHouse_23 ?_
      refine lv_iconst (v := 1) hx hb dX3_struckHouse_24 (by decide) ?_
      refine lv_iadd hx hb dX3_struckHouse_25 ?_
      obtain ⟨r4, e3, h⟩ := b1_e h
      refine cSi (as := [.int (μ.1 q 2), .int x1, .int ((4 * x2) + 1)]) (rest := []) (c_X3_lot e3) C hl.1 hH hS rfl wd_805 mw_X3_lot wd_804 rfl (rm_ok (by decide) (by decide)) (Nat.le_of_ble_eq_true rfl) ⟨Nat.zero_le _, Nat.zero_le _⟩ dX3_struckHouse_26 (fun H locs hH hS => ?_)
      refine lv_goto (tgt := 33) hx hb dX3_struckHouse_29 (by decide) ?_
      exact h_iret C hr hk hH hS rfl (by cases h; rfl) dX3_struckHouse_33
theorem c_X3_struckHouse {l : Launch} {ω : WW} {q : Nat} {x1 : Int32} {x2 : Int32} (hq : IsQ ω q) {μ : Mem} {rr : Int32} (h : fX3_struckHouse q x1 x2 μ = some rr) : Con l yX3_struckHouse cX3_struckHouse 3 (some .int) 4 ω [.ref (wB ω + q), .int x1, .int x2] μ (some (.int rr)) μ :=
  con_of (by decide) (Nat.le_of_ble_eq_true rfl) (fun p e s m args below meth c ls C hr hk hl hH hS => wX3_struckHouse_e hq C hr hk hH hS (lv_sub hl [0, 1, 2] rfl) h)
set_option maxHeartbeats 4000000 in
set_option maxRecDepth 100000 in
theorem wX3_breakPane_e {q : Nat} {q1 : Nat} (hq : IsQ ω q) (hq1 : IsS ω q1) (C : Cx ω p s m args c cX3_breakPane 4 RX3) (hr : meth.sig.returnType = none) (hk : meth.locks = false) {μo : Mem} {x2 : Int32} {μ : Mem} {H : Heap} {locs : List Loc} {ls : Array Slot} (hH : Hd ω μ H) (hS : FS ω s H locs) (hl : lv_has ls 4 [(0, .ref (wB ω + q)), (1, .ref (wB ω + q1)), (2, .int x2)]) (h : fX3_breakPane q q1 x2 μ = some μo) : W p l e (rmd 2) s m args below meth c H locs 0 0 (MQ below (QR ω none μo) args s 0 0 (wA ω)) (F0 m 0 ls []) := by
  have hx := C.1
  have hb := C.2.1
  unfold fX3_breakPane at h
  refine lv_aload_n hx hb dX3_breakPane_0 rfl (lv_at hl 1 rfl) ?_
  refine lv_iload_n hx hb dX3_breakPane_1 rfl (lv_at hl 2 rfl) ?_
  refine lv_iconst (v := 1) hx hb dX3_breakPane_2 (by decide) ?_
  obtain ⟨r2, e1, h⟩ := b1_e h
  refine cVi (as := [.int x2, .int 1]) (rest := []) (c_X7_get hq1 e1) C hl.1 hH hS rfl hq1.1 rfl wd_745 wd_744 mw_X7_get wd_770 rfl (rm_ok (by decide) (by decide)) (Nat.le_of_ble_eq_true rfl) ⟨Nat.zero_le _, Nat.zero_le _⟩ (by decide) dX3_breakPane_3 (fun H locs hH hS => ?_)
  refine lv_istore_n (lv' := [(3, .int r2), (0, .ref (wB ω + q)), (1, .ref (wB ω + q1)), (2, .int x2)]) hx hb dX3_breakPane_6 rfl hl (by decide) rfl (fun ls hl => ?_)
  refine lv_iload_n hx hb dX3_breakPane_7 rfl (lv_at hl 0 rfl) ?_
  refine lv_aload_n hx hb dX3_breakPane_8 rfl (lv_at hl 2 rfl) ?_
  refine lv_iload_n hx hb dX3_breakPane_9 rfl (lv_at hl 3 rfl) ?_
  refine lv_iconst (v := 0) hx hb dX3_breakPane_10 (by decide) ?_
  obtain ⟨r4, e3, h⟩ := b1_e h
  refine cVi (as := [.int x2, .int 0]) (rest := [.int r2]) (c_X7_get hq1 e3) C hl.1 hH hS rfl hq1.1 rfl wd_745 wd_744 mw_X7_get wd_770 rfl (rm_ok (by decide) (by decide)) (Nat.le_of_ble_eq_true rfl) ⟨Nat.zero_le _, Nat.zero_le _⟩ (by decide) dX3_breakPane_11 (fun H locs hH hS => ?_)
  refine lv_icmp_ge (tgt := 26) hx hb dX3_breakPane_14 (by decide) (fun hc => ?_) (fun hc => ?_)
  · have h := ite_t hc h
    exact h_vret C hr hk hH hS (by cases h; rfl) dX3_breakPane_26
  · have h := ite_f hc h
    refine lv_aload_n hx hb dX3_breakPane_17 rfl (lv_at hl 2 rfl) ?_
    refine lv_iload_n hx hb dX3_breakPane_18 rfl (lv_at hl 3 rfl) ?_
    refine lv_iconst (v := 1) hx hb dX3_breakPane_19 (by decide) ?_
    refine lv_iload_n hx hb dX3_breakPane_20 rfl (lv_at hl 0 rfl) ?_
    refine lv_iconst (v := 1) hx hb dX3_breakPane_21 (by decide) ?_
    refine lv_iadd hx hb dX3_breakPane_22 ?_
    obtain ⟨μ6, e5, h⟩ := b1_e h
    refine cVv (as := [.int x2, .int 1, .int (r2 + 1)]) (rest := []) (c_X7_set hq1 e5) C hl.1 hH hS rfl hq1.1 rfl wd_721 wd_720 mw_X7_set wd_719 rfl (rm_ok (by decide) (by decide)) (Nat.le_of_ble_eq_true rfl) ⟨Nat.zero_le _, Nat.zero_le _⟩ (by decide) dX3_breakPane_23 (fun H locs hH hS => ?_)
    exact h_vret C hr hk hH hS (by cases h; rfl) dX3_breakPane_26
theorem c_X3_breakPane {l : Launch} {ω : WW} {q : Nat} {q1 : Nat} {x2 : Int32} (hq : IsQ ω q) (hq1 : IsS ω q1) {μ : Mem} {μo : Mem} (h : fX3_breakPane q q1 x2 μ = some μo) : Con l yX3_breakPane cX3_breakPane 4 none 2 ω [.ref (wB ω + q), .ref (wB ω + q1), .int x2] μ none μo :=
  con_of (by decide) (Nat.le_of_ble_eq_true rfl) (fun p e s m args below meth c ls C hr hk hl hH hS => wX3_breakPane_e hq hq1 C hr hk hH hS (lv_sub hl [0, 1, 2] rfl) h)
set_option maxHeartbeats 4000000 in
set_option maxRecDepth 100000 in
theorem wX3_hailOn_e {q : Nat} {q1 : Nat} (hq : IsQ ω q) (hq1 : IsS ω q1) (C : Cx ω p s m args c cX3_hailOn 3 RX3) (hr : meth.sig.returnType = none) (hk : meth.locks = false) {μo : Mem} {μ : Mem} {H : Heap} {locs : List Loc} {ls : Array Slot} (hH : Hd ω μ H) (hS : FS ω s H locs) (hl : lv_has ls 3 [(0, .ref (wB ω + q)), (1, .ref (wB ω + q1))]) (h : fX3_hailOn q q1 μ = some μo) : W p l e (rmd 5) s m args below meth c H locs 0 0 (MQ below (QR ω none μo) args s 0 0 (wA ω)) (F0 m 0 ls []) := by
  have hx := C.1
  have hb := C.2.1
  unfold fX3_hailOn at h
  refine lv_aload_n hx hb dX3_hailOn_0 rfl (lv_at hl 0 rfl) ?_
  refine lv_aload_n hx hb dX3_hailOn_1 rfl (lv_at hl 0 rfl) ?_
  refine g_275 C hH hq.1 dX3_hailOn_2 ?_
  refine lv_aload_n hx hb dX3_hailOn_5 rfl (lv_at hl 1 rfl) ?_
  refine g_324 C hH hq1.1 dX3_hailOn_6 ?_
  obtain ⟨r2, e1, h⟩ := b1_e h
  refine cVi (as := [.int (μ.1 q 6), .int (μ.1 q1 1)]) (rest := []) (c_X3_struckHouse hq e1) C hl.1 hH hS rfl hq.1 rfl wd_880 wd_879 mw_X3_struckHouse wd_878 rfl (rm_ok (by decide) (by decide)) (Nat.le_of_ble_eq_true rfl) ⟨Nat.zero_le _, Nat.zero_le _⟩ (by decide) dX3_hailOn_9 (fun H locs hH hS => ?_)
  refine lv_istore_n (lv' := [(2, .int r2), (0, .ref (wB ω + q)), (1, .ref (wB ω + q1))]) hx hb dX3_hailOn_12 rfl hl (by decide) rfl (fun ls hl => ?_)
  refine lv_iload_n hx hb dX3_hailOn_13 rfl (lv_at hl 0 rfl) ?_
  refine lv_iconst (v := (-1)) hx hb dX3_hailOn_14 (by decide) ?_
  refine lv_icmp_eq (tgt := 24) hx hb dX3_hailOn_15 (by decide) (fun hc => ?_) (fun hc => ?_)
  · have h := ite_t hc h
    exact h_vret C hr hk hH hS (by cases h; rfl) dX3_hailOn_24
  · have h := ite_f hc h
    refine lv_aload_n hx hb dX3_hailOn_18 rfl (lv_at hl 1 rfl) ?_
    refine lv_aload_n hx hb dX3_hailOn_19 rfl (lv_at hl 2 rfl) ?_
    refine lv_iload_n hx hb dX3_hailOn_20 rfl (lv_at hl 0 rfl) ?_
    obtain ⟨μ4, e3, h⟩ := b1_e h
    refine cVv (as := [.ref (wB ω + q1), .int r2]) (rest := []) (c_X3_breakPane hq hq1 e3) C hl.1 hH hS rfl hq.1 rfl wd_885 wd_884 mw_X3_breakPane wd_883 rfl (rm_ok (by decide) (by decide)) (Nat.le_of_ble_eq_true rfl) ⟨Nat.zero_le _, Nat.zero_le _⟩ (by decide) dX3_hailOn_21 (fun H locs hH hS => ?_)
    exact h_vret C hr hk hH hS (by cases h; rfl) dX3_hailOn_24
theorem c_X3_hailOn {l : Launch} {ω : WW} {q : Nat} {q1 : Nat} (hq : IsQ ω q) (hq1 : IsS ω q1) {μ : Mem} {μo : Mem} (h : fX3_hailOn q q1 μ = some μo) : Con l yX3_hailOn cX3_hailOn 3 none 5 ω [.ref (wB ω + q), .ref (wB ω + q1)] μ none μo :=
  con_of (by decide) (Nat.le_of_ble_eq_true rfl) (fun p e s m args below meth c ls C hr hk hl hH hS => wX3_hailOn_e hq hq1 C hr hk hH hS (lv_sub hl [0, 1] rfl) h)
set_option maxHeartbeats 4000000 in
set_option maxRecDepth 100000 in
theorem wX11_days_s29 (hW : FWC ω) (C : Cx ω p s m args c cX11_days 3 RX11) (hr : meth.sig.returnType = some .int) (hk : meth.locks = false) {rr : Int32} {μo : Mem} {x1 : Int32} {x2 : Int32} {rec : Int32 → Mem → Option (Int32 × Mem)} (hrec : ∀ (z2 : Int32) (ν : Mem) (H : Heap) (locs : List Loc) (ls : Array Slot), Hd ω ν H → FS ω s H locs → lv_has ls 3 [(0, .ref (wB ω + 1)), (1, .int x1), (2, .int z2)] → rec z2 ν = some (rr, μo) → W p l e (rmd 6) s m args below meth c H locs 0 0 (MQ below (QR ω (some (.int rr)) μo) args s 0 0 (wA ω)) (F0 m 29 ls [])) {μ : Mem} {H : Heap} {locs : List Loc} {ls : Array Slot} (hH : Hd ω μ H) (hS : FS ω s H locs) (hl : lv_has ls 3 [(0, .ref (wB ω + 1)), (1, .int x1), (2, .int x2)]) (h : fX11_days_s29 rec x1 x2 μ = some (rr, μo)) : W p l e (rmd 6) s m args below meth c H locs 0 0 (MQ below (QR ω (some (.int rr)) μo) args s 0 0 (wA ω)) (F0 m 29 ls []) := by
  have hx := C.1
  have hb := C.2.1
  unfold fX11_days_s29 at h
  refine lv_iload_n hx hb dX11_days_29 rfl (lv_at hl 2 rfl) ?_
  refine lv_iload_n hx hb dX11_days_30 rfl (lv_at hl 1 rfl) ?_
  refine lv_icmp_ge (tgt := 75) hx hb dX11_days_31 (by decide) (fun hc => ?_) (fun hc => ?_)
  · have h := ite_t hc h
    refine lv_aload_n hx hb dX11_days_75 rfl (lv_at hl 0 rfl) ?_
    refine g_477 (i := 24) C hH (jC_1 hW) rfl dX11_days_76 ?_
    refine g_327 C hH (jC_24 hW) dX11_days_79 ?_
    exact h_iret C hr hk hH hS rfl (by cases h; rfl) dX11_days_82
  · have h := ite_f hc h
    refine lv_aload_n hx hb dX11_days_34 rfl (lv_at hl 0 rfl) ?_
    refine g_476 (i := 17) C hH (jC_1 hW) rfl dX11_days_35 ?_
    refine lv_aload_n hx hb dX11_days_38 rfl (lv_at hl 0 rfl) ?_
    refine g_477 (i := 24) C hH (jC_1 hW) rfl dX11_days_39 ?_
    obtain ⟨μ2, e1, h⟩ := b1_e h
    refine cVv (as := [.ref (wB ω + 24)]) (rest := []) (c_X3_passDay (qC_17 hW) (sC_24 hW) e1) C hl.1 hH hS rfl (jC_17 hW) rfl wd_862 wd_861 mw_X3_passDay wd_860 rfl (rm_ok (by decide) (by decide)) (Nat.le_of_ble_eq_true rfl) ⟨Nat.zero_le _, Nat.zero_le _⟩ (by decide) dX11_days_42 (fun H locs hH hS => ?_)
    refine lv_aload_n hx hb dX11_days_45 rfl (lv_at hl 0 rfl) ?_
    refine g_476 (i := 17) C hH (jC_1 hW) rfl dX11_days_46 ?_
    refine lv_aload_n hx hb dX11_days_49 rfl (lv_at hl 0 rfl) ?_
    refine g_477 (i := 24) C hH (jC_1 hW) rfl dX11_days_50 ?_
    obtain ⟨μ4, e3, h⟩ := b1_e h
    refine cVv (as := [.ref (wB ω + 24)]) (rest := []) (c_X3_hailOn (qC_17 hW) (sC_24 hW) e3) C hl.1 hH hS rfl (jC_17 hW) rfl wd_876 wd_875 mw_X3_hailOn wd_874 rfl (rm_ok (by decide) (by decide)) (Nat.le_of_ble_eq_true rfl) ⟨Nat.zero_le _, Nat.zero_le _⟩ (by decide) dX11_days_53 (fun H locs hH hS => ?_)
    refine lv_aload_n hx hb dX11_days_56 rfl (lv_at hl 0 rfl) ?_
    refine g_477 (i := 24) C hH (jC_1 hW) rfl dX11_days_57 ?_
    refine lv_dup hx hb dX11_days_60 rfl ?_
    refine g_327 C hH (jC_24 hW) dX11_days_61 ?_
    refine lv_iconst (v := 1) hx hb dX11_days_64 (by decide) ?_
    refine lv_iadd hx hb dX11_days_65 ?_
    obtain ⟨μ5, e6, h⟩ := bd_e h
    refine p_327 C hH hS (jC_24 hW) dX11_days_66 (fun H locs hH hS => ?_)
    have hH := Hd.to e6 hH
    refine lv_iinc (v := x2 + 1) (lv' := [(2, .int (x2 + 1)), (0, .ref (wB ω + 1)), (1, .int x1)]) hx hb dX11_days_69 hl (k := 2) rfl rfl (by decide) rfl (fun ls hl => ?_)
    refine lv_goto (tgt := 29) hx hb dX11_days_72 (by decide) ?_
    exact hrec _ _ H locs ls hH hS (lv_sub hl [1, 2, 0] rfl) h
theorem wX11_days_l29 (hW : FWC ω) (C : Cx ω p s m args c cX11_days 3 RX11) (hr : meth.sig.returnType = some .int) (hk : meth.locks = false) {rr : Int32} {μo : Mem} {x1 : Int32} : ∀ (n : Nat) (x2 : Int32) (μ : Mem) (H : Heap) (locs : List Loc) (ls : Array Slot), Hd ω μ H → FS ω s H locs → lv_has ls 3 [(0, .ref (wB ω + 1)), (1, .int x1), (2, .int x2)] → fX11_days_l29 x1 n x2 μ = some (rr, μo) → W p l e (rmd 6) s m args below meth c H locs 0 0 (MQ below (QR ω (some (.int rr)) μo) args s 0 0 (wA ω)) (F0 m 29 ls []) := by
  intro n
  induction n with
  | zero => intro x2 μ H locs ls hH hS hl h; cases h
  | succ n ih => intro x2 μ H locs ls hH hS hl h; exact wX11_days_s29 hW C hr hk ih hH hS hl h
set_option maxHeartbeats 4000000 in
set_option maxRecDepth 100000 in
theorem wX11_days_b27 (hW : FWC ω) (C : Cx ω p s m args c cX11_days 3 RX11) (hr : meth.sig.returnType = some .int) (hk : meth.locks = false) {rr : Int32} {μo : Mem} {x1 : Int32} {μ : Mem} {H : Heap} {locs : List Loc} {ls : Array Slot} (hH : Hd ω μ H) (hS : FS ω s H locs) (hl : lv_has ls 3 [(0, .ref (wB ω + 1)), (1, .int x1)]) (h : fX11_days_b27 x1 μ = some (rr, μo)) : W p l e (rmd 6) s m args below meth c H locs 0 0 (MQ below (QR ω (some (.int rr)) μo) args s 0 0 (wA ω)) (F0 m 27 ls []) := by
  have hx := C.1
  have hb := C.2.1
  unfold fX11_days_b27 at h
  refine lv_iconst (v := 0) hx hb dX11_days_27 (by decide) ?_
  refine lv_istore_n (lv' := [(2, .int 0), (0, .ref (wB ω + 1)), (1, .int x1)]) hx hb dX11_days_28 rfl hl (by decide) rfl (fun ls hl => ?_)
  exact wX11_days_l29 hW C hr hk FU _ _ H locs ls hH hS (lv_sub hl [1, 2, 0] rfl) h
set_option maxHeartbeats 4000000 in
set_option maxRecDepth 100000 in
theorem wX11_days_e (hW : FWC ω) (C : Cx ω p s m args c cX11_days 3 RX11) (hr : meth.sig.returnType = some .int) (hk : meth.locks = false) {rr : Int32} {μo : Mem} {x1 : Int32} {μ : Mem} {H : Heap} {locs : List Loc} {ls : Array Slot} (hH : Hd ω μ H) (hS : FS ω s H locs) (hl : lv_has ls 3 [(0, .ref (wB ω + 1)), (1, .int x1)]) (h : fX11_days x1 μ = some (rr, μo)) : W p l e (rmd 6) s m args below meth c H locs 0 0 (MQ below (QR ω (some (.int rr)) μo) args s 0 0 (wA ω)) (F0 m 0 ls []) := by
  have hx := C.1
  have hb := C.2.1
  unfold fX11_days at h
  refine lv_iload_n hx hb dX11_days_0 rfl (lv_at hl 1 rfl) ?_
  refine lv_if_lt (tgt := 10) hx hb dX11_days_1 (by decide) (fun hc => ?_) (fun hc => ?_)
  · have h := ite_t hc h
    refine lv_iconst (v := (-1)) hx hb dX11_days_10 (by decide) ?_
    exact h_iret C hr hk hH hS rfl (by cases h; rfl) dX11_days_11
  · have h := ite_f hc h
    refine lv_iload_n hx hb dX11_days_4 rfl (lv_at hl 1 rfl) ?_
    refine lv_bipush (v := 60) hx hb dX11_days_5 (by decide) ?_
    refine lv_icmp_le (tgt := 12) hx hb dX11_days_7 (by decide) (fun hc => ?_) (fun hc => ?_)
    · have h := ite_t hc h
      refine lv_iload_n hx hb dX11_days_12 rfl (lv_at hl 1 rfl) ?_
      refine lv_if_le (tgt := 27) hx hb dX11_days_13 (by decide) (fun hc => ?_) (fun hc => ?_)
      · have h := ite_t hc h
        exact wX11_days_b27 hW C hr hk hH hS hl h
      · have h := ite_f hc h
        refine lv_aload_n hx hb dX11_days_16 rfl (lv_at hl 0 rfl) ?_
        refine g_480 (i := 30) C hH (jC_1 hW) rfl dX11_days_17 ?_
        refine lv_aload_n hx hb dX11_days_20 rfl (lv_at hl 0 rfl) ?_
        refine g_477 (i := 24) C hH (jC_1 hW) rfl dX11_days_21 ?_
        obtain ⟨μ8, e7, h⟩ := b1_e h
        refine cVv (as := [.ref (wB ω + 24)]) (rest := []) (c_X0_push hW (sC_24 hW) e7) C hl.1 hH hS rfl (jC_30 hW) rfl wd_825 wd_824 mw_X0_push wd_823 rfl (rm_ok (by decide) (by decide)) (Nat.le_of_ble_eq_true rfl) ⟨Nat.zero_le _, Nat.zero_le _⟩ (by decide) dX11_days_24 (fun H locs hH hS => ?_)
        exact wX11_days_b27 hW C hr hk hH hS hl h
    · have h := ite_f hc h
      refine lv_iconst (v := (-1)) hx hb dX11_days_10 (by decide) ?_
      exact h_iret C hr hk hH hS rfl (by cases h; rfl) dX11_days_11
theorem c_X11_days {l : Launch} {ω : WW} {x1 : Int32} (hW : FWC ω) {μ : Mem} {rr : Int32} {μo : Mem} (h : fX11_days x1 μ = some (rr, μo)) : Con l yX11_days cX11_days 3 (some .int) 6 ω [.ref (wB ω + 1), .int x1] μ (some (.int rr)) μo :=
  con_of (by decide) (Nat.le_of_ble_eq_true rfl) (fun p e s m args below meth c ls C hr hk hl hH hS => wX11_days_e hW C hr hk hH hS (lv_sub hl [0, 1] rfl) h)
end WK1
