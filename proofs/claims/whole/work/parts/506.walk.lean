theorem dX1_copyFrom_0 : decode cX1_copyFrom 0 = .ok (.aload_n 1, 1) := by decide +kernel
theorem dX1_copyFrom_1 : decode cX1_copyFrom 1 = .ok (.getfield 11, 3) := by decide +kernel
theorem dX1_copyFrom_4 : decode cX1_copyFrom 4 = .ok (.iconst 0, 1) := by decide +kernel
theorem dX1_copyFrom_5 : decode cX1_copyFrom 5 = .ok (.aload_n 0, 1) := by decide +kernel
theorem dX1_copyFrom_6 : decode cX1_copyFrom 6 = .ok (.getfield 11, 3) := by decide +kernel
theorem dX1_copyFrom_9 : decode cX1_copyFrom 9 = .ok (.iconst 0, 1) := by decide +kernel
theorem dX1_copyFrom_10 : decode cX1_copyFrom 10 = .ok (.aload_n 1, 1) := by decide +kernel
theorem dX1_copyFrom_11 : decode cX1_copyFrom 11 = .ok (.getfield 27, 3) := by decide +kernel
theorem dX1_copyFrom_14 : decode cX1_copyFrom 14 = .ok (.invokestatic 41, 3) := by decide +kernel
theorem dX1_copyFrom_17 : decode cX1_copyFrom 17 = .ok (.aload_n 1, 1) := by decide +kernel
theorem dX1_copyFrom_18 : decode cX1_copyFrom 18 = .ok (.getfield 15, 3) := by decide +kernel
theorem dX1_copyFrom_21 : decode cX1_copyFrom 21 = .ok (.iconst 0, 1) := by decide +kernel
theorem dX1_copyFrom_22 : decode cX1_copyFrom 22 = .ok (.aload_n 0, 1) := by decide +kernel
theorem dX1_copyFrom_23 : decode cX1_copyFrom 23 = .ok (.getfield 15, 3) := by decide +kernel
theorem dX1_copyFrom_26 : decode cX1_copyFrom 26 = .ok (.iconst 0, 1) := by decide +kernel
theorem dX1_copyFrom_27 : decode cX1_copyFrom 27 = .ok (.aload_n 1, 1) := by decide +kernel
theorem dX1_copyFrom_28 : decode cX1_copyFrom 28 = .ok (.getfield 27, 3) := by decide +kernel
theorem dX1_copyFrom_31 : decode cX1_copyFrom 31 = .ok (.invokestatic 41, 3) := by decide +kernel
theorem dX1_copyFrom_34 : decode cX1_copyFrom 34 = .ok (.aload_n 1, 1) := by decide +kernel
theorem dX1_copyFrom_35 : decode cX1_copyFrom 35 = .ok (.getfield 18, 3) := by decide +kernel
theorem dX1_copyFrom_38 : decode cX1_copyFrom 38 = .ok (.iconst 0, 1) := by decide +kernel
theorem dX1_copyFrom_39 : decode cX1_copyFrom 39 = .ok (.aload_n 0, 1) := by decide +kernel
theorem dX1_copyFrom_40 : decode cX1_copyFrom 40 = .ok (.getfield 18, 3) := by decide +kernel
theorem dX1_copyFrom_43 : decode cX1_copyFrom 43 = .ok (.iconst 0, 1) := by decide +kernel
theorem dX1_copyFrom_44 : decode cX1_copyFrom 44 = .ok (.iconst 4, 1) := by decide +kernel
theorem dX1_copyFrom_45 : decode cX1_copyFrom 45 = .ok (.invokestatic 41, 3) := by decide +kernel
theorem dX1_copyFrom_48 : decode cX1_copyFrom 48 = .ok (.aload_n 0, 1) := by decide +kernel
theorem dX1_copyFrom_49 : decode cX1_copyFrom 49 = .ok (.aload_n 1, 1) := by decide +kernel
theorem dX1_copyFrom_50 : decode cX1_copyFrom 50 = .ok (.getfield 27, 3) := by decide +kernel
theorem dX1_copyFrom_53 : decode cX1_copyFrom 53 = .ok (.putfield 27, 3) := by decide +kernel
theorem dX1_copyFrom_56 : decode cX1_copyFrom 56 = .ok (.return_, 1) := by decide +kernel
theorem dX3_copyFrom_0 : decode cX3_copyFrom 0 = .ok (.aload_n 1, 1) := by decide +kernel
theorem dX3_copyFrom_1 : decode cX3_copyFrom 1 = .ok (.getfield 11, 3) := by decide +kernel
theorem dX3_copyFrom_4 : decode cX3_copyFrom 4 = .ok (.iconst 0, 1) := by decide +kernel
theorem dX3_copyFrom_5 : decode cX3_copyFrom 5 = .ok (.aload_n 0, 1) := by decide +kernel
theorem dX3_copyFrom_6 : decode cX3_copyFrom 6 = .ok (.getfield 11, 3) := by decide +kernel
theorem dX3_copyFrom_9 : decode cX3_copyFrom 9 = .ok (.iconst 0, 1) := by decide +kernel
theorem dX3_copyFrom_10 : decode cX3_copyFrom 10 = .ok (.bipush 30, 2) := by decide +kernel
theorem dX3_copyFrom_12 : decode cX3_copyFrom 12 = .ok (.invokestatic 42, 3) := by decide +kernel
theorem dX3_copyFrom_15 : decode cX3_copyFrom 15 = .ok (.aload_n 0, 1) := by decide +kernel
theorem dX3_copyFrom_16 : decode cX3_copyFrom 16 = .ok (.getfield 18, 3) := by decide +kernel
theorem dX3_copyFrom_19 : decode cX3_copyFrom 19 = .ok (.aload_n 1, 1) := by decide +kernel
theorem dX3_copyFrom_20 : decode cX3_copyFrom 20 = .ok (.getfield 18, 3) := by decide +kernel
theorem dX3_copyFrom_23 : decode cX3_copyFrom 23 = .ok (.invokevirtual 48, 3) := by decide +kernel
theorem dX3_copyFrom_26 : decode cX3_copyFrom 26 = .ok (.aload_n 0, 1) := by decide +kernel
theorem dX3_copyFrom_27 : decode cX3_copyFrom 27 = .ok (.aload_n 1, 1) := by decide +kernel
theorem dX3_copyFrom_28 : decode cX3_copyFrom 28 = .ok (.getfield 26, 3) := by decide +kernel
theorem dX3_copyFrom_31 : decode cX3_copyFrom 31 = .ok (.putfield 26, 3) := by decide +kernel
theorem dX3_copyFrom_34 : decode cX3_copyFrom 34 = .ok (.aload_n 0, 1) := by decide +kernel
theorem dX3_copyFrom_35 : decode cX3_copyFrom 35 = .ok (.aload_n 1, 1) := by decide +kernel
theorem dX3_copyFrom_36 : decode cX3_copyFrom 36 = .ok (.getfield 30, 3) := by decide +kernel
theorem dX3_copyFrom_39 : decode cX3_copyFrom 39 = .ok (.putfield 30, 3) := by decide +kernel
theorem dX3_copyFrom_42 : decode cX3_copyFrom 42 = .ok (.aload_n 0, 1) := by decide +kernel
theorem dX3_copyFrom_43 : decode cX3_copyFrom 43 = .ok (.aload_n 1, 1) := by decide +kernel
theorem dX3_copyFrom_44 : decode cX3_copyFrom 44 = .ok (.getfield 33, 3) := by decide +kernel
theorem dX3_copyFrom_47 : decode cX3_copyFrom 47 = .ok (.putfield 33, 3) := by decide +kernel
theorem dX3_copyFrom_50 : decode cX3_copyFrom 50 = .ok (.aload_n 0, 1) := by decide +kernel
theorem dX3_copyFrom_51 : decode cX3_copyFrom 51 = .ok (.aload_n 1, 1) := by decide +kernel
theorem dX3_copyFrom_52 : decode cX3_copyFrom 52 = .ok (.getfield 36, 3) := by decide +kernel
theorem dX3_copyFrom_55 : decode cX3_copyFrom 55 = .ok (.putfield 36, 3) := by decide +kernel
theorem dX3_copyFrom_58 : decode cX3_copyFrom 58 = .ok (.aload_n 0, 1) := by decide +kernel
theorem dX3_copyFrom_59 : decode cX3_copyFrom 59 = .ok (.aload_n 1, 1) := by decide +kernel
theorem dX3_copyFrom_60 : decode cX3_copyFrom 60 = .ok (.getfield 39, 3) := by decide +kernel
theorem dX3_copyFrom_63 : decode cX3_copyFrom 63 = .ok (.putfield 39, 3) := by decide +kernel
theorem dX3_copyFrom_66 : decode cX3_copyFrom 66 = .ok (.return_, 1) := by decide +kernel
theorem dX3_begin_0 : decode cX3_begin 0 = .ok (.iconst 0, 1) := by decide +kernel
theorem dX3_begin_1 : decode cX3_begin 1 = .ok (.istore_n 2, 1) := by decide +kernel
theorem dX3_begin_2 : decode cX3_begin 2 = .ok (.iload_n 2, 1) := by decide +kernel
theorem dX3_begin_3 : decode cX3_begin 3 = .ok (.bipush 6, 2) := by decide +kernel
theorem dX3_begin_5 : decode cX3_begin 5 = .ok (.if_icmp .ge 30, 3) := by decide +kernel
theorem dX3_begin_8 : decode cX3_begin 8 = .ok (.iconst 0, 1) := by decide +kernel
theorem dX3_begin_9 : decode cX3_begin 9 = .ok (.istore_n 3, 1) := by decide +kernel
theorem dX3_begin_10 : decode cX3_begin 10 = .ok (.iload_n 3, 1) := by decide +kernel
theorem dX3_begin_11 : decode cX3_begin 11 = .ok (.bipush 7, 2) := by decide +kernel
theorem dX3_begin_13 : decode cX3_begin 13 = .ok (.if_icmp .ge 16, 3) := by decide +kernel
theorem dX3_begin_16 : decode cX3_begin 16 = .ok (.aload_n 1, 1) := by decide +kernel
theorem dX3_begin_17 : decode cX3_begin 17 = .ok (.iload_n 2, 1) := by decide +kernel
theorem dX3_begin_18 : decode cX3_begin 18 = .ok (.iload_n 3, 1) := by decide +kernel
theorem dX3_begin_19 : decode cX3_begin 19 = .ok (.iconst 0, 1) := by decide +kernel
theorem dX3_begin_20 : decode cX3_begin 20 = .ok (.invokevirtual 54, 3) := by decide +kernel
theorem dX3_begin_23 : decode cX3_begin 23 = .ok (.iinc 3 1, 3) := by decide +kernel
theorem dX3_begin_26 : decode cX3_begin 26 = .ok (.goto (-16), 3) := by decide +kernel
theorem dX3_begin_29 : decode cX3_begin 29 = .ok (.iinc 2 1, 3) := by decide +kernel
theorem dX3_begin_32 : decode cX3_begin 32 = .ok (.goto (-30), 3) := by decide +kernel
theorem dX3_begin_35 : decode cX3_begin 35 = .ok (.iconst 0, 1) := by decide +kernel
theorem dX3_begin_36 : decode cX3_begin 36 = .ok (.istore_n 2, 1) := by decide +kernel
theorem dX3_begin_37 : decode cX3_begin 37 = .ok (.iload_n 2, 1) := by decide +kernel
theorem dX3_begin_38 : decode cX3_begin 38 = .ok (.aload_n 0, 1) := by decide +kernel
theorem dX3_begin_39 : decode cX3_begin 39 = .ok (.getfield 26, 3) := by decide +kernel
theorem dX3_begin_42 : decode cX3_begin 42 = .ok (.if_icmp .ge 45, 3) := by decide +kernel
theorem dX3_begin_45 : decode cX3_begin 45 = .ok (.aload_n 1, 1) := by decide +kernel
theorem dX3_begin_46 : decode cX3_begin 46 = .ok (.iload_n 2, 1) := by decide +kernel
theorem dX3_begin_47 : decode cX3_begin 47 = .ok (.iconst 0, 1) := by decide +kernel
theorem dX3_begin_48 : decode cX3_begin 48 = .ok (.aload_n 0, 1) := by decide +kernel
theorem dX3_begin_49 : decode cX3_begin 49 = .ok (.iload_n 2, 1) := by decide +kernel
theorem dX3_begin_50 : decode cX3_begin 50 = .ok (.iconst 0, 1) := by decide +kernel
theorem dX3_begin_51 : decode cX3_begin 51 = .ok (.invokevirtual 58, 3) := by decide +kernel
theorem dX3_begin_54 : decode cX3_begin 54 = .ok (.invokevirtual 54, 3) := by decide +kernel
theorem dX3_begin_57 : decode cX3_begin 57 = .ok (.aload_n 1, 1) := by decide +kernel
theorem dX3_begin_58 : decode cX3_begin 58 = .ok (.iload_n 2, 1) := by decide +kernel
theorem dX3_begin_59 : decode cX3_begin 59 = .ok (.iconst 2, 1) := by decide +kernel
theorem dX3_begin_60 : decode cX3_begin 60 = .ok (.aload_n 0, 1) := by decide +kernel
theorem dX3_begin_61 : decode cX3_begin 61 = .ok (.iload_n 2, 1) := by decide +kernel
theorem dX3_begin_62 : decode cX3_begin 62 = .ok (.iconst 1, 1) := by decide +kernel
theorem dX3_begin_63 : decode cX3_begin 63 = .ok (.invokevirtual 58, 3) := by decide +kernel
theorem dX3_begin_66 : decode cX3_begin 66 = .ok (.invokevirtual 54, 3) := by decide +kernel
theorem dX3_begin_69 : decode cX3_begin 69 = .ok (.aload_n 1, 1) := by decide +kernel
theorem dX3_begin_70 : decode cX3_begin 70 = .ok (.iload_n 2, 1) := by decide +kernel
theorem dX3_begin_71 : decode cX3_begin 71 = .ok (.iconst 3, 1) := by decide +kernel
theorem dX3_begin_72 : decode cX3_begin 72 = .ok (.aload_n 0, 1) := by decide +kernel
theorem dX3_begin_73 : decode cX3_begin 73 = .ok (.iload_n 2, 1) := by decide +kernel
theorem dX3_begin_74 : decode cX3_begin 74 = .ok (.iconst 2, 1) := by decide +kernel
theorem dX3_begin_75 : decode cX3_begin 75 = .ok (.invokevirtual 58, 3) := by decide +kernel
theorem dX3_begin_78 : decode cX3_begin 78 = .ok (.invokevirtual 54, 3) := by decide +kernel
theorem dX3_begin_81 : decode cX3_begin 81 = .ok (.iinc 2 1, 3) := by decide +kernel
theorem dX3_begin_84 : decode cX3_begin 84 = .ok (.goto (-47), 3) := by decide +kernel
theorem dX3_begin_87 : decode cX3_begin 87 = .ok (.aload_n 1, 1) := by decide +kernel
theorem dX3_begin_88 : decode cX3_begin 88 = .ok (.iconst 0, 1) := by decide +kernel
theorem dX3_begin_89 : decode cX3_begin 89 = .ok (.putfield 62, 3) := by decide +kernel
theorem dX3_begin_92 : decode cX3_begin 92 = .ok (.aload_n 1, 1) := by decide +kernel
theorem dX3_begin_93 : decode cX3_begin 93 = .ok (.aload_n 0, 1) := by decide +kernel
theorem dX3_begin_94 : decode cX3_begin 94 = .ok (.getfield 30, 3) := by decide +kernel
theorem dX3_begin_97 : decode cX3_begin 97 = .ok (.putfield 65, 3) := by decide +kernel
theorem dX3_begin_100 : decode cX3_begin 100 = .ok (.aload_n 1, 1) := by decide +kernel
theorem dX3_begin_101 : decode cX3_begin 101 = .ok (.iconst 0, 1) := by decide +kernel
theorem dX3_begin_102 : decode cX3_begin 102 = .ok (.putfield 66, 3) := by decide +kernel
theorem dX3_begin_105 : decode cX3_begin 105 = .ok (.aload_n 1, 1) := by decide +kernel
theorem dX3_begin_106 : decode cX3_begin 106 = .ok (.iconst 0, 1) := by decide +kernel
theorem dX3_begin_107 : decode cX3_begin 107 = .ok (.putfield 69, 3) := by decide +kernel
theorem dX3_begin_110 : decode cX3_begin 110 = .ok (.return_, 1) := by decide +kernel
theorem dX11_read_0 : decode cX11_read 0 = .ok (.aload_n 0, 1) := by decide +kernel
theorem dX11_read_1 : decode cX11_read 1 = .ok (.getfield 16, 3) := by decide +kernel
theorem dX11_read_4 : decode cX11_read 4 = .ok (.aload_n 0, 1) := by decide +kernel
theorem dX11_read_5 : decode cX11_read 5 = .ok (.getfield 9, 3) := by decide +kernel
theorem dX11_read_8 : decode cX11_read 8 = .ok (.aload_n 0, 1) := by decide +kernel
theorem dX11_read_9 : decode cX11_read 9 = .ok (.getfield 99, 3) := by decide +kernel
theorem dX11_read_12 : decode cX11_read 12 = .ok (.invokevirtual 108, 3) := by decide +kernel
theorem dX11_read_15 : decode cX11_read 15 = .ok (.istore_n 1, 1) := by decide +kernel
theorem dX11_read_16 : decode cX11_read 16 = .ok (.aload_n 0, 1) := by decide +kernel
theorem dX11_read_17 : decode cX11_read 17 = .ok (.iconst 0, 1) := by decide +kernel
theorem dX11_read_18 : decode cX11_read 18 = .ok (.putfield 99, 3) := by decide +kernel
theorem dX11_read_21 : decode cX11_read 21 = .ok (.aload_n 0, 1) := by decide +kernel
theorem dX11_read_22 : decode cX11_read 22 = .ok (.iload_n 1, 1) := by decide +kernel
theorem dX11_read_23 : decode cX11_read 23 = .ok (.ifCond .ne 7, 3) := by decide +kernel
theorem dX11_read_26 : decode cX11_read 26 = .ok (.iconst (-1), 1) := by decide +kernel
theorem dX11_read_27 : decode cX11_read 27 = .ok (.goto 10, 3) := by decide +kernel
theorem dX11_read_30 : decode cX11_read 30 = .ok (.aload_n 0, 1) := by decide +kernel
theorem dX11_read_31 : decode cX11_read 31 = .ok (.getfield 16, 3) := by decide +kernel
theorem dX11_read_34 : decode cX11_read 34 = .ok (.getfield 112, 3) := by decide +kernel
theorem dX11_read_37 : decode cX11_read 37 = .ok (.putfield 102, 3) := by decide +kernel
theorem dX11_read_40 : decode cX11_read 40 = .ok (.iload_n 1, 1) := by decide +kernel
theorem dX11_read_41 : decode cX11_read 41 = .ok (.ifCond .ne 43, 3) := by decide +kernel
theorem dX11_read_44 : decode cX11_read 44 = .ok (.aload_n 0, 1) := by decide +kernel
theorem dX11_read_45 : decode cX11_read 45 = .ok (.getfield 23, 3) := by decide +kernel
theorem dX11_read_48 : decode cX11_read 48 = .ok (.aload_n 0, 1) := by decide +kernel
theorem dX11_read_49 : decode cX11_read 49 = .ok (.getfield 16, 3) := by decide +kernel
theorem dX11_read_52 : decode cX11_read 52 = .ok (.getfield 113, 3) := by decide +kernel
theorem dX11_read_55 : decode cX11_read 55 = .ok (.invokevirtual 116, 3) := by decide +kernel
theorem dX11_read_58 : decode cX11_read 58 = .ok (.aload_n 0, 1) := by decide +kernel
theorem dX11_read_59 : decode cX11_read 59 = .ok (.getfield 23, 3) := by decide +kernel
theorem dX11_read_62 : decode cX11_read 62 = .ok (.aload_n 0, 1) := by decide +kernel
theorem dX11_read_63 : decode cX11_read 63 = .ok (.getfield 30, 3) := by decide +kernel
theorem dX11_read_66 : decode cX11_read 66 = .ok (.invokevirtual 120, 3) := by decide +kernel
theorem dX11_read_69 : decode cX11_read 69 = .ok (.aload_n 0, 1) := by decide +kernel
theorem dX11_read_70 : decode cX11_read 70 = .ok (.getfield 48, 3) := by decide +kernel
theorem dX11_read_73 : decode cX11_read 73 = .ok (.invokevirtual 124, 3) := by decide +kernel
theorem dX11_read_76 : decode cX11_read 76 = .ok (.aload_n 0, 1) := by decide +kernel
theorem dX11_read_77 : decode cX11_read 77 = .ok (.getfield 91, 3) := by decide +kernel
theorem dX11_read_80 : decode cX11_read 80 = .ok (.iconst 0, 1) := by decide +kernel
theorem dX11_read_81 : decode cX11_read 81 = .ok (.putfield 127, 3) := by decide +kernel
theorem dX11_read_84 : decode cX11_read 84 = .ok (.iload_n 1, 1) := by decide +kernel
theorem dX11_read_85 : decode cX11_read 85 = .ok (.ireturn, 1) := by decide +kernel
theorem dX11_restore_0 : decode cX11_restore 0 = .ok (.aload_n 0, 1) := by decide +kernel
theorem dX11_restore_1 : decode cX11_restore 1 = .ok (.getfield 48, 3) := by decide +kernel
theorem dX11_restore_4 : decode cX11_restore 4 = .ok (.iload_n 1, 1) := by decide +kernel
theorem dX11_restore_5 : decode cX11_restore 5 = .ok (.aload_n 0, 1) := by decide +kernel
theorem dX11_restore_6 : decode cX11_restore 6 = .ok (.getfield 30, 3) := by decide +kernel
theorem dX11_restore_9 : decode cX11_restore 9 = .ok (.invokevirtual 227, 3) := by decide +kernel
theorem dX11_restore_12 : decode cX11_restore 12 = .ok (.ireturn, 1) := by decide +kernel
theorem dX5_coverFrom_0 : decode cX5_coverFrom 0 = .ok (.iload_n 3, 1) := by decide +kernel
theorem dX5_coverFrom_1 : decode cX5_coverFrom 1 = .ok (.aload_n 2, 1) := by decide +kernel
theorem dX5_coverFrom_2 : decode cX5_coverFrom 2 = .ok (.getfield 18, 3) := by decide +kernel
theorem dX5_coverFrom_5 : decode cX5_coverFrom 5 = .ok (.if_icmp .ge 9, 3) := by decide +kernel
theorem dX5_coverFrom_8 : decode cX5_coverFrom 8 = .ok (.iload_n 3, 1) := by decide +kernel
theorem dX5_coverFrom_9 : decode cX5_coverFrom 9 = .ok (.bipush 6, 2) := by decide +kernel
theorem dX5_coverFrom_11 : decode cX5_coverFrom 11 = .ok (.if_icmp .lt 5, 3) := by decide +kernel
theorem dX5_coverFrom_14 : decode cX5_coverFrom 14 = .ok (.iconst 1, 1) := by decide +kernel
theorem dX5_coverFrom_15 : decode cX5_coverFrom 15 = .ok (.ireturn, 1) := by decide +kernel
theorem dX5_coverFrom_16 : decode cX5_coverFrom 16 = .ok (.aload_n 1, 1) := by decide +kernel
theorem dX5_coverFrom_17 : decode cX5_coverFrom 17 = .ok (.iload_n 3, 1) := by decide +kernel
theorem dX5_coverFrom_18 : decode cX5_coverFrom 18 = .ok (.iconst 0, 1) := by decide +kernel
theorem dX5_coverFrom_19 : decode cX5_coverFrom 19 = .ok (.invokevirtual 26, 3) := by decide +kernel
theorem dX5_coverFrom_22 : decode cX5_coverFrom 22 = .ok (.istore 6, 2) := by decide +kernel
theorem dX5_coverFrom_24 : decode cX5_coverFrom 24 = .ok (.iconst 0, 1) := by decide +kernel
theorem dX5_coverFrom_25 : decode cX5_coverFrom 25 = .ok (.istore 7, 2) := by decide +kernel
theorem dX5_coverFrom_27 : decode cX5_coverFrom 27 = .ok (.iload 7, 2) := by decide +kernel
theorem dX5_coverFrom_29 : decode cX5_coverFrom 29 = .ok (.iload 4, 2) := by decide +kernel
theorem dX5_coverFrom_31 : decode cX5_coverFrom 31 = .ok (.if_icmp .gt 97, 3) := by decide +kernel
theorem dX5_coverFrom_34 : decode cX5_coverFrom 34 = .ok (.iload 7, 2) := by decide +kernel
theorem dX5_coverFrom_36 : decode cX5_coverFrom 36 = .ok (.iload 5, 2) := by decide +kernel
theorem dX5_coverFrom_38 : decode cX5_coverFrom 38 = .ok (.if_icmp .ge 90, 3) := by decide +kernel
theorem dX5_coverFrom_41 : decode cX5_coverFrom 41 = .ok (.iload 7, 2) := by decide +kernel
theorem dX5_coverFrom_43 : decode cX5_coverFrom 43 = .ok (.bipush 6, 2) := by decide +kernel
theorem dX5_coverFrom_45 : decode cX5_coverFrom 45 = .ok (.if_icmp .ge 83, 3) := by decide +kernel
theorem dX5_coverFrom_48 : decode cX5_coverFrom 48 = .ok (.aload_n 0, 1) := by decide +kernel
theorem dX5_coverFrom_49 : decode cX5_coverFrom 49 = .ok (.getfield 15, 3) := by decide +kernel
theorem dX5_coverFrom_52 : decode cX5_coverFrom 52 = .ok (.iload 7, 2) := by decide +kernel
theorem dX5_coverFrom_54 : decode cX5_coverFrom 54 = .ok (.iaload, 1) := by decide +kernel
theorem dX5_coverFrom_55 : decode cX5_coverFrom 55 = .ok (.iload 6, 2) := by decide +kernel
theorem dX5_coverFrom_57 : decode cX5_coverFrom 57 = .ok (.iadd, 1) := by decide +kernel
theorem dX5_coverFrom_58 : decode cX5_coverFrom 58 = .ok (.aload_n 2, 1) := by decide +kernel
theorem dX5_coverFrom_59 : decode cX5_coverFrom 59 = .ok (.getfield 30, 3) := by decide +kernel
theorem dX5_coverFrom_62 : decode cX5_coverFrom 62 = .ok (.if_icmp .gt 60, 3) := by decide +kernel
theorem dX5_coverFrom_65 : decode cX5_coverFrom 65 = .ok (.aload_n 0, 1) := by decide +kernel
theorem dX5_coverFrom_66 : decode cX5_coverFrom 66 = .ok (.getfield 9, 3) := by decide +kernel
theorem dX5_coverFrom_69 : decode cX5_coverFrom 69 = .ok (.iload_n 3, 1) := by decide +kernel
theorem dX5_coverFrom_70 : decode cX5_coverFrom 70 = .ok (.iload 7, 2) := by decide +kernel
theorem dX5_coverFrom_72 : decode cX5_coverFrom 72 = .ok (.iastore, 1) := by decide +kernel
theorem dX5_coverFrom_73 : decode cX5_coverFrom 73 = .ok (.aload_n 0, 1) := by decide +kernel
theorem dX5_coverFrom_74 : decode cX5_coverFrom 74 = .ok (.getfield 15, 3) := by decide +kernel
theorem dX5_coverFrom_77 : decode cX5_coverFrom 77 = .ok (.iload 7, 2) := by decide +kernel
theorem dX5_coverFrom_79 : decode cX5_coverFrom 79 = .ok (.dup2, 1) := by decide +kernel
theorem dX5_coverFrom_80 : decode cX5_coverFrom 80 = .ok (.iaload, 1) := by decide +kernel
theorem dX5_coverFrom_81 : decode cX5_coverFrom 81 = .ok (.iload 6, 2) := by decide +kernel
theorem dX5_coverFrom_83 : decode cX5_coverFrom 83 = .ok (.iadd, 1) := by decide +kernel
theorem dX5_coverFrom_84 : decode cX5_coverFrom 84 = .ok (.iastore, 1) := by decide +kernel
theorem dX5_coverFrom_85 : decode cX5_coverFrom 85 = .ok (.aload_n 0, 1) := by decide +kernel
theorem dX5_coverFrom_86 : decode cX5_coverFrom 86 = .ok (.aload_n 1, 1) := by decide +kernel
theorem dX5_coverFrom_87 : decode cX5_coverFrom 87 = .ok (.aload_n 2, 1) := by decide +kernel
theorem dX5_coverFrom_88 : decode cX5_coverFrom 88 = .ok (.iload_n 3, 1) := by decide +kernel
theorem dX5_coverFrom_89 : decode cX5_coverFrom 89 = .ok (.iconst 1, 1) := by decide +kernel
theorem dX5_coverFrom_90 : decode cX5_coverFrom 90 = .ok (.iadd, 1) := by decide +kernel
theorem dX5_coverFrom_91 : decode cX5_coverFrom 91 = .ok (.iload 4, 2) := by decide +kernel
theorem dX5_coverFrom_93 : decode cX5_coverFrom 93 = .ok (.iload 7, 2) := by decide +kernel
theorem dX5_coverFrom_95 : decode cX5_coverFrom 95 = .ok (.iconst 1, 1) := by decide +kernel
theorem dX5_coverFrom_96 : decode cX5_coverFrom 96 = .ok (.iadd, 1) := by decide +kernel
theorem dX5_coverFrom_97 : decode cX5_coverFrom 97 = .ok (.invokestatic 37, 3) := by decide +kernel
theorem dX5_coverFrom_100 : decode cX5_coverFrom 100 = .ok (.iload 5, 2) := by decide +kernel
theorem dX5_coverFrom_102 : decode cX5_coverFrom 102 = .ok (.invokevirtual 33, 3) := by decide +kernel
theorem dX5_coverFrom_105 : decode cX5_coverFrom 105 = .ok (.ifCond .eq 5, 3) := by decide +kernel
theorem dX5_coverFrom_108 : decode cX5_coverFrom 108 = .ok (.iconst 1, 1) := by decide +kernel
theorem dX5_coverFrom_109 : decode cX5_coverFrom 109 = .ok (.ireturn, 1) := by decide +kernel
theorem dX5_coverFrom_110 : decode cX5_coverFrom 110 = .ok (.aload_n 0, 1) := by decide +kernel
theorem dX5_coverFrom_111 : decode cX5_coverFrom 111 = .ok (.getfield 15, 3) := by decide +kernel
theorem dX5_coverFrom_114 : decode cX5_coverFrom 114 = .ok (.iload 7, 2) := by decide +kernel
theorem dX5_coverFrom_116 : decode cX5_coverFrom 116 = .ok (.dup2, 1) := by decide +kernel
theorem dX5_coverFrom_117 : decode cX5_coverFrom 117 = .ok (.iaload, 1) := by decide +kernel
theorem dX5_coverFrom_118 : decode cX5_coverFrom 118 = .ok (.iload 6, 2) := by decide +kernel
theorem dX5_coverFrom_120 : decode cX5_coverFrom 120 = .ok (.isub, 1) := by decide +kernel
theorem dX5_coverFrom_121 : decode cX5_coverFrom 121 = .ok (.iastore, 1) := by decide +kernel
theorem dX5_coverFrom_122 : decode cX5_coverFrom 122 = .ok (.iinc 7 1, 3) := by decide +kernel
theorem dX5_coverFrom_125 : decode cX5_coverFrom 125 = .ok (.goto (-98), 3) := by decide +kernel
theorem dX5_coverFrom_128 : decode cX5_coverFrom 128 = .ok (.iconst 0, 1) := by decide +kernel
theorem dX5_coverFrom_129 : decode cX5_coverFrom 129 = .ok (.ireturn, 1) := by decide +kernel
theorem dX5_search_0 : decode cX5_search 0 = .ok (.iconst 0, 1) := by decide +kernel
theorem dX5_search_1 : decode cX5_search 1 = .ok (.istore_n 3, 1) := by decide +kernel
theorem dX5_search_2 : decode cX5_search 2 = .ok (.iload_n 3, 1) := by decide +kernel
theorem dX5_search_3 : decode cX5_search 3 = .ok (.aload_n 2, 1) := by decide +kernel
theorem dX5_search_4 : decode cX5_search 4 = .ok (.getfield 18, 3) := by decide +kernel
theorem dX5_search_7 : decode cX5_search 7 = .ok (.if_icmp .ge 25, 3) := by decide +kernel
theorem dX5_search_10 : decode cX5_search 10 = .ok (.aload_n 1, 1) := by decide +kernel
theorem dX5_search_11 : decode cX5_search 11 = .ok (.iload_n 3, 1) := by decide +kernel
theorem dX5_search_12 : decode cX5_search 12 = .ok (.iconst 0, 1) := by decide +kernel
theorem dX5_search_13 : decode cX5_search 13 = .ok (.invokevirtual 26, 3) := by decide +kernel
theorem dX5_search_16 : decode cX5_search 16 = .ok (.aload_n 2, 1) := by decide +kernel
theorem dX5_search_17 : decode cX5_search 17 = .ok (.getfield 30, 3) := by decide +kernel
theorem dX5_search_20 : decode cX5_search 20 = .ok (.if_icmp .le 6, 3) := by decide +kernel
theorem dX5_search_23 : decode cX5_search 23 = .ok (.bipush (-2), 2) := by decide +kernel
theorem dX5_search_25 : decode cX5_search 25 = .ok (.ireturn, 1) := by decide +kernel
theorem dX5_search_26 : decode cX5_search 26 = .ok (.iinc 3 1, 3) := by decide +kernel
theorem dX5_search_29 : decode cX5_search 29 = .ok (.goto (-27), 3) := by decide +kernel
theorem dX5_search_32 : decode cX5_search 32 = .ok (.iconst 0, 1) := by decide +kernel
theorem dX5_search_33 : decode cX5_search 33 = .ok (.istore_n 3, 1) := by decide +kernel
theorem dX5_search_34 : decode cX5_search 34 = .ok (.iload_n 3, 1) := by decide +kernel
theorem dX5_search_35 : decode cX5_search 35 = .ok (.aload_n 2, 1) := by decide +kernel
theorem dX5_search_36 : decode cX5_search 36 = .ok (.getfield 18, 3) := by decide +kernel
theorem dX5_search_39 : decode cX5_search 39 = .ok (.if_icmp .gt 47, 3) := by decide +kernel
theorem dX5_search_42 : decode cX5_search 42 = .ok (.iconst 0, 1) := by decide +kernel
theorem dX5_search_43 : decode cX5_search 43 = .ok (.istore 4, 2) := by decide +kernel
theorem dX5_search_45 : decode cX5_search 45 = .ok (.iload 4, 2) := by decide +kernel
theorem dX5_search_47 : decode cX5_search 47 = .ok (.bipush 6, 2) := by decide +kernel
theorem dX5_search_49 : decode cX5_search 49 = .ok (.if_icmp .ge 17, 3) := by decide +kernel
theorem dX5_search_52 : decode cX5_search 52 = .ok (.aload_n 0, 1) := by decide +kernel
theorem dX5_search_53 : decode cX5_search 53 = .ok (.getfield 15, 3) := by decide +kernel
theorem dX5_search_56 : decode cX5_search 56 = .ok (.iload 4, 2) := by decide +kernel
theorem dX5_search_58 : decode cX5_search 58 = .ok (.iconst 0, 1) := by decide +kernel
theorem dX5_search_59 : decode cX5_search 59 = .ok (.iastore, 1) := by decide +kernel
theorem dX5_search_60 : decode cX5_search 60 = .ok (.iinc 4 1, 3) := by decide +kernel
theorem dX5_search_63 : decode cX5_search 63 = .ok (.goto (-18), 3) := by decide +kernel
theorem dX5_search_66 : decode cX5_search 66 = .ok (.aload_n 0, 1) := by decide +kernel
theorem dX5_search_67 : decode cX5_search 67 = .ok (.aload_n 1, 1) := by decide +kernel
theorem dX5_search_68 : decode cX5_search 68 = .ok (.aload_n 2, 1) := by decide +kernel
theorem dX5_search_69 : decode cX5_search 69 = .ok (.iconst 0, 1) := by decide +kernel
theorem dX5_search_70 : decode cX5_search 70 = .ok (.iconst 0, 1) := by decide +kernel
theorem dX5_search_71 : decode cX5_search 71 = .ok (.iload_n 3, 1) := by decide +kernel
theorem dX5_search_72 : decode cX5_search 72 = .ok (.invokevirtual 33, 3) := by decide +kernel
theorem dX5_search_75 : decode cX5_search 75 = .ok (.ifCond .eq 5, 3) := by decide +kernel
theorem dX5_search_78 : decode cX5_search 78 = .ok (.iload_n 3, 1) := by decide +kernel
theorem dX5_search_79 : decode cX5_search 79 = .ok (.ireturn, 1) := by decide +kernel
theorem dX5_search_80 : decode cX5_search 80 = .ok (.iinc 3 1, 3) := by decide +kernel
theorem dX5_search_83 : decode cX5_search 83 = .ok (.goto (-49), 3) := by decide +kernel
theorem dX5_search_86 : decode cX5_search 86 = .ok (.bipush (-2), 2) := by decide +kernel
theorem dX5_search_88 : decode cX5_search 88 = .ok (.ireturn, 1) := by decide +kernel
theorem dX11_roofs_0 : decode cX11_roofs 0 = .ok (.iload_n 1, 1) := by decide +kernel
theorem dX11_roofs_1 : decode cX11_roofs 1 = .ok (.iconst (-1), 1) := by decide +kernel
theorem dX11_roofs_2 : decode cX11_roofs 2 = .ok (.if_icmp .eq 13, 3) := by decide +kernel
theorem dX11_roofs_5 : decode cX11_roofs 5 = .ok (.aload_n 0, 1) := by decide +kernel
theorem dX11_roofs_6 : decode cX11_roofs 6 = .ok (.iload_n 1, 1) := by decide +kernel
theorem dX11_roofs_7 : decode cX11_roofs 7 = .ok (.invokevirtual 130, 3) := by decide +kernel
theorem dX11_roofs_10 : decode cX11_roofs 10 = .ok (.ifCond .ne 5, 3) := by decide +kernel
theorem dX11_roofs_13 : decode cX11_roofs 13 = .ok (.iconst (-1), 1) := by decide +kernel
theorem dX11_roofs_14 : decode cX11_roofs 14 = .ok (.ireturn, 1) := by decide +kernel
theorem dX11_roofs_15 : decode cX11_roofs 15 = .ok (.aload_n 0, 1) := by decide +kernel
theorem dX11_roofs_16 : decode cX11_roofs 16 = .ok (.getfield 77, 3) := by decide +kernel
theorem dX11_roofs_19 : decode cX11_roofs 19 = .ok (.aload_n 0, 1) := by decide +kernel
theorem dX11_roofs_20 : decode cX11_roofs 20 = .ok (.getfield 30, 3) := by decide +kernel
theorem dX11_roofs_23 : decode cX11_roofs 23 = .ok (.aload_n 0, 1) := by decide +kernel
theorem dX11_roofs_24 : decode cX11_roofs 24 = .ok (.getfield 23, 3) := by decide +kernel
theorem dX11_roofs_27 : decode cX11_roofs 27 = .ok (.invokevirtual 307, 3) := by decide +kernel
theorem dX11_roofs_30 : decode cX11_roofs 30 = .ok (.istore_n 2, 1) := by decide +kernel
theorem dX11_roofs_31 : decode cX11_roofs 31 = .ok (.iload_n 2, 1) := by decide +kernel
theorem dX11_roofs_32 : decode cX11_roofs 32 = .ok (.bipush (-2), 2) := by decide +kernel
theorem dX11_roofs_34 : decode cX11_roofs 34 = .ok (.if_icmp .eq 8, 3) := by decide +kernel
theorem dX11_roofs_37 : decode cX11_roofs 37 = .ok (.iload_n 1, 1) := by decide +kernel
theorem dX11_roofs_38 : decode cX11_roofs 38 = .ok (.iconst (-1), 1) := by decide +kernel
theorem dX11_roofs_39 : decode cX11_roofs 39 = .ok (.if_icmp .ne 5, 3) := by decide +kernel
theorem dX11_roofs_42 : decode cX11_roofs 42 = .ok (.iload_n 2, 1) := by decide +kernel
theorem dX11_roofs_43 : decode cX11_roofs 43 = .ok (.ireturn, 1) := by decide +kernel
theorem dX11_roofs_44 : decode cX11_roofs 44 = .ok (.aload_n 0, 1) := by decide +kernel
theorem dX11_roofs_45 : decode cX11_roofs 45 = .ok (.getfield 77, 3) := by decide +kernel
theorem dX11_roofs_48 : decode cX11_roofs 48 = .ok (.getfield 310, 3) := by decide +kernel
theorem dX11_roofs_51 : decode cX11_roofs 51 = .ok (.iload_n 1, 1) := by decide +kernel
theorem dX11_roofs_52 : decode cX11_roofs 52 = .ok (.iaload, 1) := by decide +kernel
theorem dX11_roofs_53 : decode cX11_roofs 53 = .ok (.ireturn, 1) := by decide +kernel
theorem dX11_round_0 : decode cX11_round 0 = .ok (.aload_n 0, 1) := by decide +kernel
theorem dX11_round_1 : decode cX11_round 1 = .ok (.iload_n 1, 1) := by decide +kernel
theorem dX11_round_2 : decode cX11_round 2 = .ok (.invokevirtual 130, 3) := by decide +kernel
theorem dX11_round_5 : decode cX11_round 5 = .ok (.ifCond .ne 5, 3) := by decide +kernel
theorem dX11_round_8 : decode cX11_round 8 = .ok (.iconst (-1), 1) := by decide +kernel
theorem dX11_round_9 : decode cX11_round 9 = .ok (.ireturn, 1) := by decide +kernel
theorem dX11_round_10 : decode cX11_round 10 = .ok (.aload_n 0, 1) := by decide +kernel
theorem dX11_round_11 : decode cX11_round 11 = .ok (.getfield 70, 3) := by decide +kernel
theorem dX11_round_14 : decode cX11_round 14 = .ok (.aload_n 0, 1) := by decide +kernel
theorem dX11_round_15 : decode cX11_round 15 = .ok (.getfield 23, 3) := by decide +kernel
theorem dX11_round_18 : decode cX11_round 18 = .ok (.iload_n 1, 1) := by decide +kernel
theorem dX11_round_19 : decode cX11_round 19 = .ok (.invokevirtual 287, 3) := by decide +kernel
theorem dX11_round_22 : decode cX11_round 22 = .ok (.aload_n 0, 1) := by decide +kernel
theorem dX11_round_23 : decode cX11_round 23 = .ok (.getfield 70, 3) := by decide +kernel
theorem dX11_round_26 : decode cX11_round 26 = .ok (.getfield 291, 3) := by decide +kernel
theorem dX11_round_29 : decode cX11_round 29 = .ok (.ireturn, 1) := by decide +kernel
theorem dX11_saves_0 : decode cX11_saves 0 = .ok (.aload_n 0, 1) := by decide +kernel
theorem dX11_saves_1 : decode cX11_saves 1 = .ok (.iload_n 1, 1) := by decide +kernel
theorem dX11_saves_2 : decode cX11_saves 2 = .ok (.invokevirtual 130, 3) := by decide +kernel
theorem dX11_saves_5 : decode cX11_saves 5 = .ok (.ifCond .eq 11, 3) := by decide +kernel
theorem dX11_saves_8 : decode cX11_saves 8 = .ok (.aload_n 0, 1) := by decide +kernel
theorem dX11_saves_9 : decode cX11_saves 9 = .ok (.iload_n 1, 1) := by decide +kernel
theorem dX11_saves_10 : decode cX11_saves 10 = .ok (.invokevirtual 268, 3) := by decide +kernel
theorem dX11_saves_13 : decode cX11_saves 13 = .ok (.goto 6, 3) := by decide +kernel
theorem dX11_saves_16 : decode cX11_saves 16 = .ok (.ldc_w 271, 3) := by decide +kernel
theorem dX11_saves_19 : decode cX11_saves 19 = .ok (.ireturn, 1) := by decide +kernel
theorem dX6_givenTo_0 : decode cX6_givenTo 0 = .ok (.iload_n 1, 1) := by decide +kernel
theorem dX6_givenTo_1 : decode cX6_givenTo 1 = .ok (.ifCond .lt 18, 3) := by decide +kernel
theorem dX6_givenTo_4 : decode cX6_givenTo 4 = .ok (.iload_n 1, 1) := by decide +kernel
theorem dX6_givenTo_5 : decode cX6_givenTo 5 = .ok (.bipush 6, 2) := by decide +kernel
theorem dX6_givenTo_7 : decode cX6_givenTo 7 = .ok (.if_icmp .ge 12, 3) := by decide +kernel
theorem dX6_givenTo_10 : decode cX6_givenTo 10 = .ok (.aload_n 0, 1) := by decide +kernel
theorem dX6_givenTo_11 : decode cX6_givenTo 11 = .ok (.getfield 30, 3) := by decide +kernel
theorem dX6_givenTo_14 : decode cX6_givenTo 14 = .ok (.iload_n 1, 1) := by decide +kernel
theorem dX6_givenTo_15 : decode cX6_givenTo 15 = .ok (.iaload, 1) := by decide +kernel
theorem dX6_givenTo_16 : decode cX6_givenTo 16 = .ok (.goto 4, 3) := by decide +kernel
theorem dX6_givenTo_19 : decode cX6_givenTo 19 = .ok (.iconst 0, 1) := by decide +kernel
theorem dX6_givenTo_20 : decode cX6_givenTo 20 = .ok (.ireturn, 1) := by decide +kernel
theorem dX11_share_0 : decode cX11_share 0 = .ok (.iload_n 1, 1) := by decide +kernel
theorem dX11_share_1 : decode cX11_share 1 = .ok (.ifCond .lt 22, 3) := by decide +kernel
theorem dX11_share_4 : decode cX11_share 4 = .ok (.iload_n 1, 1) := by decide +kernel
theorem dX11_share_5 : decode cX11_share 5 = .ok (.bipush 30, 2) := by decide +kernel
theorem dX11_share_7 : decode cX11_share 7 = .ok (.if_icmp .gt 16, 3) := by decide +kernel
theorem dX11_share_10 : decode cX11_share 10 = .ok (.iload_n 2, 1) := by decide +kernel
theorem dX11_share_11 : decode cX11_share 11 = .ok (.iconst (-1), 1) := by decide +kernel
theorem dX11_share_12 : decode cX11_share 12 = .ok (.if_icmp .eq 13, 3) := by decide +kernel
theorem dX11_share_15 : decode cX11_share 15 = .ok (.aload_n 0, 1) := by decide +kernel
theorem dX11_share_16 : decode cX11_share 16 = .ok (.iload_n 2, 1) := by decide +kernel
theorem dX11_share_17 : decode cX11_share 17 = .ok (.invokevirtual 130, 3) := by decide +kernel
theorem dX11_share_20 : decode cX11_share 20 = .ok (.ifCond .ne 5, 3) := by decide +kernel
theorem dX11_share_23 : decode cX11_share 23 = .ok (.iconst (-1), 1) := by decide +kernel
theorem dX11_share_24 : decode cX11_share 24 = .ok (.ireturn, 1) := by decide +kernel
theorem dX11_share_25 : decode cX11_share 25 = .ok (.aload_n 0, 1) := by decide +kernel
theorem dX11_share_26 : decode cX11_share 26 = .ok (.getfield 57, 3) := by decide +kernel
theorem dX11_share_29 : decode cX11_share 29 = .ok (.aload_n 0, 1) := by decide +kernel
theorem dX11_share_30 : decode cX11_share 30 = .ok (.getfield 23, 3) := by decide +kernel
theorem dX11_share_33 : decode cX11_share 33 = .ok (.aload_n 0, 1) := by decide +kernel
theorem dX11_share_34 : decode cX11_share 34 = .ok (.getfield 30, 3) := by decide +kernel
theorem dX11_share_37 : decode cX11_share 37 = .ok (.iload_n 1, 1) := by decide +kernel
theorem dX11_share_38 : decode cX11_share 38 = .ok (.invokevirtual 235, 3) := by decide +kernel
theorem dX11_share_41 : decode cX11_share 41 = .ok (.iload_n 2, 1) := by decide +kernel
theorem dX11_share_42 : decode cX11_share 42 = .ok (.iconst (-1), 1) := by decide +kernel
theorem dX11_share_43 : decode cX11_share 43 = .ok (.if_icmp .ne 12, 3) := by decide +kernel
theorem dX11_share_46 : decode cX11_share 46 = .ok (.aload_n 0, 1) := by decide +kernel
theorem dX11_share_47 : decode cX11_share 47 = .ok (.getfield 57, 3) := by decide +kernel
theorem dX11_share_50 : decode cX11_share 50 = .ok (.iload_n 1, 1) := by decide +kernel
theorem dX11_share_51 : decode cX11_share 51 = .ok (.invokevirtual 239, 3) := by decide +kernel
theorem dX11_share_54 : decode cX11_share 54 = .ok (.ireturn, 1) := by decide +kernel
theorem dX11_share_55 : decode cX11_share 55 = .ok (.aload_n 0, 1) := by decide +kernel
theorem dX11_share_56 : decode cX11_share 56 = .ok (.getfield 57, 3) := by decide +kernel
theorem dX11_share_59 : decode cX11_share 59 = .ok (.iload_n 1, 1) := by decide +kernel
theorem dX11_share_60 : decode cX11_share 60 = .ok (.invokevirtual 242, 3) := by decide +kernel
theorem dX11_share_63 : decode cX11_share 63 = .ok (.aload_n 0, 1) := by decide +kernel
theorem dX11_share_64 : decode cX11_share 64 = .ok (.getfield 57, 3) := by decide +kernel
theorem dX11_share_67 : decode cX11_share 67 = .ok (.iload_n 2, 1) := by decide +kernel
theorem dX11_share_68 : decode cX11_share 68 = .ok (.invokevirtual 245, 3) := by decide +kernel
theorem dX11_share_71 : decode cX11_share 71 = .ok (.ireturn, 1) := by decide +kernel
theorem dX11_summers_0 : decode cX11_summers 0 = .ok (.iload_n 1, 1) := by decide +kernel
theorem dX11_summers_1 : decode cX11_summers 1 = .ok (.iconst 1, 1) := by decide +kernel
theorem dX11_summers_2 : decode cX11_summers 2 = .ok (.if_icmp .lt 10, 3) := by decide +kernel
theorem dX11_summers_5 : decode cX11_summers 5 = .ok (.iload_n 1, 1) := by decide +kernel
theorem dX11_summers_6 : decode cX11_summers 6 = .ok (.sipush 999, 3) := by decide +kernel
theorem dX11_summers_9 : decode cX11_summers 9 = .ok (.if_icmp .le 5, 3) := by decide +kernel
theorem dX11_summers_12 : decode cX11_summers 12 = .ok (.iconst (-1), 1) := by decide +kernel
theorem dX11_summers_13 : decode cX11_summers 13 = .ok (.ireturn, 1) := by decide +kernel
theorem dX11_summers_14 : decode cX11_summers 14 = .ok (.iconst 0, 1) := by decide +kernel
theorem dX11_summers_15 : decode cX11_summers 15 = .ok (.istore_n 2, 1) := by decide +kernel
theorem dX11_summers_16 : decode cX11_summers 16 = .ok (.iconst 0, 1) := by decide +kernel
theorem dX11_summers_17 : decode cX11_summers 17 = .ok (.istore_n 3, 1) := by decide +kernel
theorem dX11_summers_18 : decode cX11_summers 18 = .ok (.iload_n 3, 1) := by decide +kernel
theorem dX11_summers_19 : decode cX11_summers 19 = .ok (.aload_n 0, 1) := by decide +kernel
theorem dX11_summers_20 : decode cX11_summers 20 = .ok (.getfield 23, 3) := by decide +kernel
theorem dX11_summers_23 : decode cX11_summers 23 = .ok (.getfield 158, 3) := by decide +kernel
theorem dX11_summers_26 : decode cX11_summers 26 = .ok (.if_icmp .ge 25, 3) := by decide +kernel
theorem dX11_summers_29 : decode cX11_summers 29 = .ok (.aload_n 0, 1) := by decide +kernel
theorem dX11_summers_30 : decode cX11_summers 30 = .ok (.getfield 30, 3) := by decide +kernel
theorem dX11_summers_33 : decode cX11_summers 33 = .ok (.iload_n 3, 1) := by decide +kernel
theorem dX11_summers_34 : decode cX11_summers 34 = .ok (.iconst 3, 1) := by decide +kernel
theorem dX11_summers_35 : decode cX11_summers 35 = .ok (.invokevirtual 134, 3) := by decide +kernel
theorem dX11_summers_38 : decode cX11_summers 38 = .ok (.iload_n 1, 1) := by decide +kernel
theorem dX11_summers_39 : decode cX11_summers 39 = .ok (.if_icmp .lt 6, 3) := by decide +kernel
theorem dX11_summers_42 : decode cX11_summers 42 = .ok (.iinc 2 1, 3) := by decide +kernel
theorem dX11_summers_45 : decode cX11_summers 45 = .ok (.iinc 3 1, 3) := by decide +kernel
theorem dX11_summers_48 : decode cX11_summers 48 = .ok (.goto (-30), 3) := by decide +kernel
theorem dX11_summers_51 : decode cX11_summers 51 = .ok (.iload_n 2, 1) := by decide +kernel
theorem dX11_summers_52 : decode cX11_summers 52 = .ok (.ireturn, 1) := by decide +kernel
theorem dX9_add_0 : decode cX9_add 0 = .ok (.aload_n 0, 1) := by decide +kernel
theorem dX9_add_1 : decode cX9_add 1 = .ok (.getfield 22, 3) := by decide +kernel
theorem dX9_add_4 : decode cX9_add 4 = .ok (.bipush 20, 2) := by decide +kernel
theorem dX9_add_6 : decode cX9_add 6 = .ok (.if_icmp .lt 5, 3) := by decide +kernel
theorem dX9_add_9 : decode cX9_add 9 = .ok (.iconst (-1), 1) := by decide +kernel
theorem dX9_add_10 : decode cX9_add 10 = .ok (.ireturn, 1) := by decide +kernel
theorem dX9_add_11 : decode cX9_add 11 = .ok (.aload_n 0, 1) := by decide +kernel
theorem dX9_add_12 : decode cX9_add 12 = .ok (.getfield 11, 3) := by decide +kernel
theorem dX9_add_15 : decode cX9_add 15 = .ok (.aload_n 0, 1) := by decide +kernel
theorem dX9_add_16 : decode cX9_add 16 = .ok (.getfield 22, 3) := by decide +kernel
theorem dX9_add_19 : decode cX9_add 19 = .ok (.iload_n 1, 1) := by decide +kernel
theorem dX9_add_20 : decode cX9_add 20 = .ok (.iastore, 1) := by decide +kernel
theorem dX9_add_21 : decode cX9_add 21 = .ok (.aload_n 0, 1) := by decide +kernel
theorem dX9_add_22 : decode cX9_add 22 = .ok (.getfield 15, 3) := by decide +kernel
theorem dX9_add_25 : decode cX9_add 25 = .ok (.aload_n 0, 1) := by decide +kernel
theorem dX9_add_26 : decode cX9_add 26 = .ok (.getfield 22, 3) := by decide +kernel
theorem dX9_add_29 : decode cX9_add 29 = .ok (.iload_n 2, 1) := by decide +kernel
theorem dX9_add_30 : decode cX9_add 30 = .ok (.iastore, 1) := by decide +kernel
theorem dX9_add_31 : decode cX9_add 31 = .ok (.aload_n 0, 1) := by decide +kernel
theorem dX9_add_32 : decode cX9_add 32 = .ok (.getfield 18, 3) := by decide +kernel
theorem dX9_add_35 : decode cX9_add 35 = .ok (.aload_n 0, 1) := by decide +kernel
theorem dX9_add_36 : decode cX9_add 36 = .ok (.getfield 22, 3) := by decide +kernel
theorem dX9_add_39 : decode cX9_add 39 = .ok (.iload_n 3, 1) := by decide +kernel
theorem dX9_add_40 : decode cX9_add 40 = .ok (.bastore, 1) := by decide +kernel
theorem dX9_add_41 : decode cX9_add 41 = .ok (.aload_n 0, 1) := by decide +kernel
theorem dX9_add_42 : decode cX9_add 42 = .ok (.dup, 1) := by decide +kernel
theorem dX9_add_43 : decode cX9_add 43 = .ok (.getfield 22, 3) := by decide +kernel
theorem dX9_add_46 : decode cX9_add 46 = .ok (.iconst 1, 1) := by decide +kernel
theorem dX9_add_47 : decode cX9_add 47 = .ok (.iadd, 1) := by decide +kernel
theorem dX9_add_48 : decode cX9_add 48 = .ok (.putfield 22, 3) := by decide +kernel
theorem dX9_add_51 : decode cX9_add 51 = .ok (.aload_n 0, 1) := by decide +kernel
theorem dX9_add_52 : decode cX9_add 52 = .ok (.getfield 22, 3) := by decide +kernel
theorem dX9_add_55 : decode cX9_add 55 = .ok (.iconst 1, 1) := by decide +kernel
theorem dX9_add_56 : decode cX9_add 56 = .ok (.isub, 1) := by decide +kernel
theorem dX9_add_57 : decode cX9_add 57 = .ok (.ireturn, 1) := by decide +kernel
theorem dX11_tell_0 : decode cX11_tell 0 = .ok (.iload_n 1, 1) := by decide +kernel
theorem dX11_tell_1 : decode cX11_tell 1 = .ok (.ifCond .lt 19, 3) := by decide +kernel
theorem dX11_tell_4 : decode cX11_tell 4 = .ok (.iload_n 1, 1) := by decide +kernel
theorem dX11_tell_5 : decode cX11_tell 5 = .ok (.iconst 4, 1) := by decide +kernel
theorem dX11_tell_6 : decode cX11_tell 6 = .ok (.if_icmp .ge 14, 3) := by decide +kernel
theorem dX11_tell_9 : decode cX11_tell 9 = .ok (.iload_n 2, 1) := by decide +kernel
theorem dX11_tell_10 : decode cX11_tell 10 = .ok (.ifCond .lt 10, 3) := by decide +kernel
theorem dX11_tell_13 : decode cX11_tell 13 = .ok (.iload_n 2, 1) := by decide +kernel
theorem dX11_tell_14 : decode cX11_tell 14 = .ok (.sipush 999, 3) := by decide +kernel
theorem dX11_tell_17 : decode cX11_tell 17 = .ok (.if_icmp .le 5, 3) := by decide +kernel
theorem dX11_tell_20 : decode cX11_tell 20 = .ok (.iconst (-1), 1) := by decide +kernel
theorem dX11_tell_21 : decode cX11_tell 21 = .ok (.ireturn, 1) := by decide +kernel
theorem dX11_tell_22 : decode cX11_tell 22 = .ok (.aload_n 0, 1) := by decide +kernel
theorem dX11_tell_23 : decode cX11_tell 23 = .ok (.getfield 91, 3) := by decide +kernel
theorem dX11_tell_26 : decode cX11_tell 26 = .ok (.iload_n 1, 1) := by decide +kernel
theorem dX11_tell_27 : decode cX11_tell 27 = .ok (.iload_n 2, 1) := by decide +kernel
theorem dX11_tell_28 : decode cX11_tell 28 = .ok (.iload_n 3, 1) := by decide +kernel
theorem dX11_tell_29 : decode cX11_tell 29 = .ok (.invokevirtual 319, 3) := by decide +kernel
theorem dX11_tell_32 : decode cX11_tell 32 = .ok (.ireturn, 1) := by decide +kernel
theorem dX11_then_0 : decode cX11_then 0 = .ok (.aload_n 0, 1) := by decide +kernel
theorem dX11_then_1 : decode cX11_then 1 = .ok (.iload_n 1, 1) := by decide +kernel
theorem dX11_then_2 : decode cX11_then 2 = .ok (.invokevirtual 130, 3) := by decide +kernel
theorem dX11_then_5 : decode cX11_then 5 = .ok (.ifCond .eq 22, 3) := by decide +kernel
theorem dX11_then_8 : decode cX11_then 8 = .ok (.iload_n 2, 1) := by decide +kernel
theorem dX11_then_9 : decode cX11_then 9 = .ok (.ifCond .lt 18, 3) := by decide +kernel
theorem dX11_then_12 : decode cX11_then 12 = .ok (.iload_n 2, 1) := by decide +kernel
theorem dX11_then_13 : decode cX11_then 13 = .ok (.bipush 60, 2) := by decide +kernel
theorem dX11_then_15 : decode cX11_then 15 = .ok (.if_icmp .gt 12, 3) := by decide +kernel
theorem dX11_then_18 : decode cX11_then 18 = .ok (.iload_n 3, 1) := by decide +kernel
theorem dX11_then_19 : decode cX11_then 19 = .ok (.ifCond .lt 8, 3) := by decide +kernel
theorem dX11_then_22 : decode cX11_then 22 = .ok (.iload_n 3, 1) := by decide +kernel
theorem dX11_then_23 : decode cX11_then 23 = .ok (.iconst 2, 1) := by decide +kernel
theorem dX11_then_24 : decode cX11_then 24 = .ok (.if_icmp .le 5, 3) := by decide +kernel
theorem dX11_then_27 : decode cX11_then 27 = .ok (.iconst (-1), 1) := by decide +kernel
theorem dX11_then_28 : decode cX11_then 28 = .ok (.ireturn, 1) := by decide +kernel
theorem dX11_then_29 : decode cX11_then 29 = .ok (.aload_n 0, 1) := by decide +kernel
theorem dX11_then_30 : decode cX11_then 30 = .ok (.iload_n 1, 1) := by decide +kernel
theorem dX11_then_31 : decode cX11_then 31 = .ok (.iload_n 2, 1) := by decide +kernel
theorem dX11_then_32 : decode cX11_then 32 = .ok (.aload_n 0, 1) := by decide +kernel
theorem dX11_then_33 : decode cX11_then 33 = .ok (.getfield 23, 3) := by decide +kernel
theorem dX11_then_36 : decode cX11_then 36 = .ok (.getfield 178, 3) := by decide +kernel
theorem dX11_then_39 : decode cX11_then 39 = .ok (.invokevirtual 275, 3) := by decide +kernel
theorem dX11_then_42 : decode cX11_then 42 = .ok (.iload_n 3, 1) := by decide +kernel
theorem dX11_then_43 : decode cX11_then 43 = .ok (.lookupswitch 45 #[(0, 25), (1, 35)], 25) := by decide +kernel
theorem dX11_then_68 : decode cX11_then 68 = .ok (.aload_n 0, 1) := by decide +kernel
theorem dX11_then_69 : decode cX11_then 69 = .ok (.getfield 39, 3) := by decide +kernel
theorem dX11_then_72 : decode cX11_then 72 = .ok (.iload_n 1, 1) := by decide +kernel
theorem dX11_then_73 : decode cX11_then 73 = .ok (.iconst 2, 1) := by decide +kernel
theorem dX11_then_74 : decode cX11_then 74 = .ok (.invokevirtual 134, 3) := by decide +kernel
theorem dX11_then_77 : decode cX11_then 77 = .ok (.ireturn, 1) := by decide +kernel
theorem dX11_then_78 : decode cX11_then 78 = .ok (.aload_n 0, 1) := by decide +kernel
theorem dX11_then_79 : decode cX11_then 79 = .ok (.getfield 39, 3) := by decide +kernel
theorem dX11_then_82 : decode cX11_then 82 = .ok (.iload_n 1, 1) := by decide +kernel
theorem dX11_then_83 : decode cX11_then 83 = .ok (.iconst 3, 1) := by decide +kernel
theorem dX11_then_84 : decode cX11_then 84 = .ok (.invokevirtual 134, 3) := by decide +kernel
theorem dX11_then_87 : decode cX11_then 87 = .ok (.ireturn, 1) := by decide +kernel
theorem dX11_then_88 : decode cX11_then 88 = .ok (.aload_n 0, 1) := by decide +kernel
theorem dX11_then_89 : decode cX11_then 89 = .ok (.getfield 39, 3) := by decide +kernel
theorem dX11_then_92 : decode cX11_then 92 = .ok (.iload_n 1, 1) := by decide +kernel
theorem dX11_then_93 : decode cX11_then 93 = .ok (.iconst 1, 1) := by decide +kernel
theorem dX11_then_94 : decode cX11_then 94 = .ok (.invokevirtual 134, 3) := by decide +kernel
theorem dX11_then_97 : decode cX11_then 97 = .ok (.ireturn, 1) := by decide +kernel
theorem dX11_twins_0 : decode cX11_twins 0 = .ok (.iload_n 1, 1) := by decide +kernel
theorem dX11_twins_1 : decode cX11_twins 1 = .ok (.ifCond .eq 10, 3) := by decide +kernel
theorem dX11_twins_4 : decode cX11_twins 4 = .ok (.iload_n 1, 1) := by decide +kernel
theorem dX11_twins_5 : decode cX11_twins 5 = .ok (.iconst 1, 1) := by decide +kernel
theorem dX11_twins_6 : decode cX11_twins 6 = .ok (.if_icmp .eq 5, 3) := by decide +kernel
theorem dX11_twins_9 : decode cX11_twins 9 = .ok (.iconst (-1), 1) := by decide +kernel
theorem dX11_twins_10 : decode cX11_twins 10 = .ok (.ireturn, 1) := by decide +kernel
theorem dX11_twins_11 : decode cX11_twins 11 = .ok (.bipush (-2), 2) := by decide +kernel
theorem dX11_twins_13 : decode cX11_twins 13 = .ok (.istore_n 2, 1) := by decide +kernel
theorem dX11_twins_14 : decode cX11_twins 14 = .ok (.ldc_w 303, 3) := by decide +kernel
theorem dX11_twins_17 : decode cX11_twins 17 = .ok (.istore_n 3, 1) := by decide +kernel
theorem dX11_twins_18 : decode cX11_twins 18 = .ok (.iconst 0, 1) := by decide +kernel
theorem dX11_twins_19 : decode cX11_twins 19 = .ok (.istore 4, 2) := by decide +kernel
theorem dX11_twins_21 : decode cX11_twins 21 = .ok (.iload 4, 2) := by decide +kernel
theorem dX11_twins_23 : decode cX11_twins 23 = .ok (.aload_n 0, 1) := by decide +kernel
theorem dX11_twins_24 : decode cX11_twins 24 = .ok (.getfield 23, 3) := by decide +kernel
theorem dX11_twins_27 : decode cX11_twins 27 = .ok (.getfield 158, 3) := by decide +kernel
theorem dX11_twins_30 : decode cX11_twins 30 = .ok (.if_icmp .ge 64, 3) := by decide +kernel
theorem dX11_twins_33 : decode cX11_twins 33 = .ok (.iload 4, 2) := by decide +kernel
theorem dX11_twins_35 : decode cX11_twins 35 = .ok (.iconst 1, 1) := by decide +kernel
theorem dX11_twins_36 : decode cX11_twins 36 = .ok (.iadd, 1) := by decide +kernel
theorem dX11_twins_37 : decode cX11_twins 37 = .ok (.istore 5, 2) := by decide +kernel
theorem dX11_twins_39 : decode cX11_twins 39 = .ok (.iload 5, 2) := by decide +kernel
theorem dX11_twins_41 : decode cX11_twins 41 = .ok (.aload_n 0, 1) := by decide +kernel
theorem dX11_twins_42 : decode cX11_twins 42 = .ok (.getfield 23, 3) := by decide +kernel
theorem dX11_twins_45 : decode cX11_twins 45 = .ok (.getfield 158, 3) := by decide +kernel
theorem dX11_twins_48 : decode cX11_twins 48 = .ok (.if_icmp .ge 40, 3) := by decide +kernel
theorem dX11_twins_51 : decode cX11_twins 51 = .ok (.aload_n 0, 1) := by decide +kernel
theorem dX11_twins_52 : decode cX11_twins 52 = .ok (.getfield 30, 3) := by decide +kernel
theorem dX11_twins_55 : decode cX11_twins 55 = .ok (.iload 4, 2) := by decide +kernel
theorem dX11_twins_57 : decode cX11_twins 57 = .ok (.iload 5, 2) := by decide +kernel
theorem dX11_twins_59 : decode cX11_twins 59 = .ok (.invokevirtual 304, 3) := by decide +kernel
theorem dX11_twins_62 : decode cX11_twins 62 = .ok (.istore 6, 2) := by decide +kernel
theorem dX11_twins_64 : decode cX11_twins 64 = .ok (.iload 6, 2) := by decide +kernel
theorem dX11_twins_66 : decode cX11_twins 66 = .ok (.iload_n 3, 1) := by decide +kernel
theorem dX11_twins_67 : decode cX11_twins 67 = .ok (.if_icmp .ge 15, 3) := by decide +kernel
theorem dX11_twins_70 : decode cX11_twins 70 = .ok (.iload 6, 2) := by decide +kernel
theorem dX11_twins_72 : decode cX11_twins 72 = .ok (.istore_n 3, 1) := by decide +kernel
theorem dX11_twins_73 : decode cX11_twins 73 = .ok (.bipush 10, 2) := by decide +kernel
theorem dX11_twins_75 : decode cX11_twins 75 = .ok (.iload 4, 2) := by decide +kernel
theorem dX11_twins_77 : decode cX11_twins 77 = .ok (.imul, 1) := by decide +kernel
theorem dX11_twins_78 : decode cX11_twins 78 = .ok (.iload 5, 2) := by decide +kernel
theorem dX11_twins_80 : decode cX11_twins 80 = .ok (.iadd, 1) := by decide +kernel
theorem dX11_twins_81 : decode cX11_twins 81 = .ok (.istore_n 2, 1) := by decide +kernel
theorem dX11_twins_82 : decode cX11_twins 82 = .ok (.iinc 5 1, 3) := by decide +kernel
theorem dX11_twins_85 : decode cX11_twins 85 = .ok (.goto (-46), 3) := by decide +kernel
theorem dX11_twins_88 : decode cX11_twins 88 = .ok (.iinc 4 1, 3) := by decide +kernel
theorem dX11_twins_91 : decode cX11_twins 91 = .ok (.goto (-70), 3) := by decide +kernel
theorem dX11_twins_94 : decode cX11_twins 94 = .ok (.iload_n 1, 1) := by decide +kernel
theorem dX11_twins_95 : decode cX11_twins 95 = .ok (.ifCond .eq 9, 3) := by decide +kernel
theorem dX11_twins_98 : decode cX11_twins 98 = .ok (.iload_n 2, 1) := by decide +kernel
theorem dX11_twins_99 : decode cX11_twins 99 = .ok (.bipush (-2), 2) := by decide +kernel
theorem dX11_twins_101 : decode cX11_twins 101 = .ok (.if_icmp .ne 7, 3) := by decide +kernel
theorem dX11_twins_104 : decode cX11_twins 104 = .ok (.iload_n 2, 1) := by decide +kernel
theorem dX11_twins_105 : decode cX11_twins 105 = .ok (.goto 4, 3) := by decide +kernel
theorem dX11_twins_108 : decode cX11_twins 108 = .ok (.iload_n 3, 1) := by decide +kernel
theorem dX11_twins_109 : decode cX11_twins 109 = .ok (.ireturn, 1) := by decide +kernel
theorem dX11_undo_0 : decode cX11_undo 0 = .ok (.aload_n 0, 1) := by decide +kernel
theorem dX11_undo_1 : decode cX11_undo 1 = .ok (.getfield 48, 3) := by decide +kernel
theorem dX11_undo_4 : decode cX11_undo 4 = .ok (.aload_n 0, 1) := by decide +kernel
theorem dX11_undo_5 : decode cX11_undo 5 = .ok (.getfield 30, 3) := by decide +kernel
theorem dX11_undo_8 : decode cX11_undo 8 = .ok (.invokevirtual 219, 3) := by decide +kernel
theorem dX11_undo_11 : decode cX11_undo 11 = .ok (.ireturn, 1) := by decide +kernel
theorem dX11_whose_0 : decode cX11_whose 0 = .ok (.iload_n 1, 1) := by decide +kernel
theorem dX11_whose_1 : decode cX11_whose 1 = .ok (.ifCond .lt 23, 3) := by decide +kernel
theorem dX11_whose_4 : decode cX11_whose 4 = .ok (.iload_n 1, 1) := by decide +kernel
theorem dX11_whose_5 : decode cX11_whose 5 = .ok (.aload_n 0, 1) := by decide +kernel
theorem dX11_whose_6 : decode cX11_whose 6 = .ok (.getfield 91, 3) := by decide +kernel
theorem dX11_whose_9 : decode cX11_whose 9 = .ok (.getfield 127, 3) := by decide +kernel
theorem dX11_whose_12 : decode cX11_whose 12 = .ok (.if_icmp .gt 12, 3) := by decide +kernel
theorem dX11_whose_15 : decode cX11_whose 15 = .ok (.iload_n 2, 1) := by decide +kernel
theorem dX11_whose_16 : decode cX11_whose 16 = .ok (.ifCond .eq 10, 3) := by decide +kernel
theorem dX11_whose_19 : decode cX11_whose 19 = .ok (.iload_n 2, 1) := by decide +kernel
theorem dX11_whose_20 : decode cX11_whose 20 = .ok (.iconst 1, 1) := by decide +kernel
theorem dX11_whose_21 : decode cX11_whose 21 = .ok (.if_icmp .eq 5, 3) := by decide +kernel
theorem dX11_whose_24 : decode cX11_whose 24 = .ok (.iconst (-1), 1) := by decide +kernel
theorem dX11_whose_25 : decode cX11_whose 25 = .ok (.ireturn, 1) := by decide +kernel
theorem dX11_whose_26 : decode cX11_whose 26 = .ok (.aload_n 0, 1) := by decide +kernel
theorem dX11_whose_27 : decode cX11_whose 27 = .ok (.getfield 91, 3) := by decide +kernel
theorem dX11_whose_30 : decode cX11_whose 30 = .ok (.aload_n 0, 1) := by decide +kernel
theorem dX11_whose_31 : decode cX11_whose 31 = .ok (.getfield 30, 3) := by decide +kernel
theorem dX11_whose_34 : decode cX11_whose 34 = .ok (.aload_n 0, 1) := by decide +kernel
theorem dX11_whose_35 : decode cX11_whose 35 = .ok (.getfield 23, 3) := by decide +kernel
theorem dX11_whose_38 : decode cX11_whose 38 = .ok (.getfield 158, 3) := by decide +kernel
theorem dX11_whose_41 : decode cX11_whose 41 = .ok (.iload_n 1, 1) := by decide +kernel
theorem dX11_whose_42 : decode cX11_whose 42 = .ok (.invokevirtual 323, 3) := by decide +kernel
theorem dX11_whose_45 : decode cX11_whose 45 = .ok (.istore_n 3, 1) := by decide +kernel
theorem dX11_whose_46 : decode cX11_whose 46 = .ok (.iload_n 2, 1) := by decide +kernel
theorem dX11_whose_47 : decode cX11_whose 47 = .ok (.ifCond .ne 10, 3) := by decide +kernel
theorem dX11_whose_50 : decode cX11_whose 50 = .ok (.iload_n 3, 1) := by decide +kernel
theorem dX11_whose_51 : decode cX11_whose 51 = .ok (.invokestatic 327, 3) := by decide +kernel
theorem dX11_whose_54 : decode cX11_whose 54 = .ok (.goto 4, 3) := by decide +kernel
theorem dX11_whose_57 : decode cX11_whose 57 = .ok (.iload_n 3, 1) := by decide +kernel
theorem dX11_whose_58 : decode cX11_whose 58 = .ok (.ireturn, 1) := by decide +kernel
section WK6
variable {p : Program} {l : Launch} {e : Env} {s : State} {m : MethodId} {args : Array Value} {below : List Frame} {meth : Method} {c : Code} {ω : WW}

set_option maxHeartbeats 4000000 in
set_option maxRecDepth 100000 in
theorem wX1_copyFrom_e {q : Nat} {q1 : Nat} (hq : IsL ω q) (hq1 : IsL ω q1) (C : Cx ω p s m args c cX1_copyFrom 2 RX1) (hr : meth.sig.returnType = none) (hk : meth.locks = false) {μo : Mem} {μ : Mem} {H : Heap} {locs : List Loc} {ls : Array Slot} (hH : Hd ω μ H) (hS : FS ω s H locs) (hl : lv_has ls 2 [(0, .ref (wB ω + q)), (1, .ref (wB ω + q1))]) (h : fX1_copyFrom q q1 μ = some μo) : W p l e (rmd 2) s m args below meth c H locs 0 0 (MQ below (QR ω none μo) args s 0 0 (wA ω)) (F0 m 0 ls []) := by
  have hx := C.1
  have hb := C.2.1
  unfold fX1_copyFrom at h
  refine lv_aload_n hx hb dX1_copyFrom_0 rfl (lv_at hl 1 rfl) ?_
  refine g_235 (i := q1 + 1) C hH hq1.1 rfl dX1_copyFrom_1 ?_
  refine lv_iconst (v := 0) hx hb dX1_copyFrom_4 (by decide) ?_
  refine lv_aload_n hx hb dX1_copyFrom_5 rfl (lv_at hl 0 rfl) ?_
  refine g_235 (i := q + 1) C hH hq.1 rfl dX1_copyFrom_6 ?_
  refine lv_iconst (v := 0) hx hb dX1_copyFrom_9 (by decide) ?_
  refine lv_aload_n hx hb dX1_copyFrom_10 rfl (lv_at hl 1 rfl) ?_
  refine g_239 C hH hq1.1 dX1_copyFrom_11 ?_
  obtain ⟨b1, h⟩ := gd_e h
  obtain ⟨μ2, e3, h⟩ := bd_e h
  refine h_copyi (rest := []) C hl.1 hH hS hq1.2.1.1 hq1.2.1.2.1 hq.2.1.1 hq.2.1.2.1 wd_714 (cpo_e b1) (Nat.le_of_ble_eq_true rfl) (Nat.le_of_ble_eq_true rfl) dX1_copyFrom_14 (fun H locs hH hS => ?_)
  have hH := Hd.to e3 hH
  refine lv_aload_n hx hb dX1_copyFrom_17 rfl (lv_at hl 1 rfl) ?_
  refine g_236 (i := q1 + 2) C hH hq1.1 rfl dX1_copyFrom_18 ?_
  refine lv_iconst (v := 0) hx hb dX1_copyFrom_21 (by decide) ?_
  refine lv_aload_n hx hb dX1_copyFrom_22 rfl (lv_at hl 0 rfl) ?_
  refine g_236 (i := q + 2) C hH hq.1 rfl dX1_copyFrom_23 ?_
  refine lv_iconst (v := 0) hx hb dX1_copyFrom_26 (by decide) ?_
  refine lv_aload_n hx hb dX1_copyFrom_27 rfl (lv_at hl 1 rfl) ?_
  refine g_239 C hH hq1.1 dX1_copyFrom_28 ?_
  obtain ⟨b4, h⟩ := gd_e h
  obtain ⟨μ5, e6, h⟩ := bd_e h
  refine h_copyi (rest := []) C hl.1 hH hS hq1.2.2.1.1 hq1.2.2.1.2.1 hq.2.2.1.1 hq.2.2.1.2.1 wd_714 (cpo_e b4) (Nat.le_of_ble_eq_true rfl) (Nat.le_of_ble_eq_true rfl) dX1_copyFrom_31 (fun H locs hH hS => ?_)
  have hH := Hd.to e6 hH
  refine lv_aload_n hx hb dX1_copyFrom_34 rfl (lv_at hl 1 rfl) ?_
  refine g_237 (i := q1 + 3) C hH hq1.1 rfl dX1_copyFrom_35 ?_
  refine lv_iconst (v := 0) hx hb dX1_copyFrom_38 (by decide) ?_
  refine lv_aload_n hx hb dX1_copyFrom_39 rfl (lv_at hl 0 rfl) ?_
  refine g_237 (i := q + 3) C hH hq.1 rfl dX1_copyFrom_40 ?_
  refine lv_iconst (v := 0) hx hb dX1_copyFrom_43 (by decide) ?_
  refine lv_iconst (v := 4) hx hb dX1_copyFrom_44 (by decide) ?_
  obtain ⟨b7, h⟩ := gd_e h
  obtain ⟨μ8, e9, h⟩ := bd_e h
  refine h_copyi (rest := []) C hl.1 hH hS hq1.2.2.2.1.1 hq1.2.2.2.1.2.1 hq.2.2.2.1.1 hq.2.2.2.1.2.1 wd_714 (cpo_e b7) (Nat.le_of_ble_eq_true rfl) (Nat.le_of_ble_eq_true rfl) dX1_copyFrom_45 (fun H locs hH hS => ?_)
  have hH := Hd.to e9 hH
  refine lv_aload_n hx hb dX1_copyFrom_48 rfl (lv_at hl 0 rfl) ?_
  refine lv_aload_n hx hb dX1_copyFrom_49 rfl (lv_at hl 1 rfl) ?_
  refine g_239 C hH hq1.1 dX1_copyFrom_50 ?_
  obtain ⟨μ10, e11, h⟩ := bd_e h
  refine p_239 C hH hS hq.1 dX1_copyFrom_53 (fun H locs hH hS => ?_)
  have hH := Hd.to e11 hH
  exact h_vret C hr hk hH hS (by cases h; rfl) dX1_copyFrom_56
theorem c_X1_copyFrom {l : Launch} {ω : WW} {q : Nat} {q1 : Nat} (hq : IsL ω q) (hq1 : IsL ω q1) {μ : Mem} {μo : Mem} (h : fX1_copyFrom q q1 μ = some μo) : Con l yX1_copyFrom cX1_copyFrom 2 none 2 ω [.ref (wB ω + q), .ref (wB ω + q1)] μ none μo :=
  con_of (by decide) (Nat.le_of_ble_eq_true rfl) (fun p e s m args below meth c ls C hr hk hl hH hS => wX1_copyFrom_e hq hq1 C hr hk hH hS (lv_sub hl [0, 1] rfl) h)
set_option maxHeartbeats 4000000 in
set_option maxRecDepth 100000 in
theorem wX3_copyFrom_e {q : Nat} {q1 : Nat} (hq : IsQ ω q) (hq1 : IsQ ω q1) (C : Cx ω p s m args c cX3_copyFrom 2 RX3) (hr : meth.sig.returnType = none) (hk : meth.locks = false) {μo : Mem} {μ : Mem} {H : Heap} {locs : List Loc} {ls : Array Slot} (hH : Hd ω μ H) (hS : FS ω s H locs) (hl : lv_has ls 2 [(0, .ref (wB ω + q)), (1, .ref (wB ω + q1))]) (h : fX3_copyFrom q q1 μ = some μo) : W p l e (rmd 3) s m args below meth c H locs 0 0 (MQ below (QR ω none μo) args s 0 0 (wA ω)) (F0 m 0 ls []) := by
  have hx := C.1
  have hb := C.2.1
  unfold fX3_copyFrom at h
  refine lv_aload_n hx hb dX3_copyFrom_0 rfl (lv_at hl 1 rfl) ?_
  refine g_257 (i := q1 + 1) C hH hq1.1 rfl dX3_copyFrom_1 ?_
  refine lv_iconst (v := 0) hx hb dX3_copyFrom_4 (by decide) ?_
  refine lv_aload_n hx hb dX3_copyFrom_5 rfl (lv_at hl 0 rfl) ?_
  refine g_257 (i := q + 1) C hH hq.1 rfl dX3_copyFrom_6 ?_
  refine lv_iconst (v := 0) hx hb dX3_copyFrom_9 (by decide) ?_
  refine lv_bipush (v := 30) hx hb dX3_copyFrom_10 (by decide) ?_
  obtain ⟨b1, h⟩ := gd_e h
  obtain ⟨μ2, e3, h⟩ := bd_e h
  refine h_copyi (rest := []) C hl.1 hH hS hq1.2.1.1 hq1.2.1.2.1 hq.2.1.1 hq.2.1.2.1 wd_707 (cpo_e b1) (Nat.le_of_ble_eq_true rfl) (Nat.le_of_ble_eq_true rfl) dX3_copyFrom_12 (fun H locs hH hS => ?_)
  have hH := Hd.to e3 hH
  refine lv_aload_n hx hb dX3_copyFrom_15 rfl (lv_at hl 0 rfl) ?_
  refine g_258 (i := q + 2) C hH hq.1 rfl dX3_copyFrom_16 ?_
  refine lv_aload_n hx hb dX3_copyFrom_19 rfl (lv_at hl 1 rfl) ?_
  refine g_258 (i := q1 + 2) C hH hq1.1 rfl dX3_copyFrom_20 ?_
  obtain ⟨μ5, e4, h⟩ := b1_e h
  refine cVv (as := [.ref (wB ω + (q1 + 2))]) (rest := []) (c_X1_copyFrom hq.2.2 hq1.2.2 e4) C hl.1 hH hS rfl hq.2.2.1 rfl wd_712 wd_711 mw_X1_copyFrom wd_710 rfl (rm_ok (by decide) (by decide)) (Nat.le_of_ble_eq_true rfl) ⟨Nat.zero_le _, Nat.zero_le _⟩ (by decide) dX3_copyFrom_23 (fun H locs hH hS => ?_)
  refine lv_aload_n hx hb dX3_copyFrom_26 rfl (lv_at hl 0 rfl) ?_
  refine lv_aload_n hx hb dX3_copyFrom_27 rfl (lv_at hl 1 rfl) ?_
  refine g_261 C hH hq1.1 dX3_copyFrom_28 ?_
  obtain ⟨μ6, e7, h⟩ := bd_e h
  refine p_261 C hH hS hq.1 dX3_copyFrom_31 (fun H locs hH hS => ?_)
  have hH := Hd.to e7 hH
  refine lv_aload_n hx hb dX3_copyFrom_34 rfl (lv_at hl 0 rfl) ?_
  refine lv_aload_n hx hb dX3_copyFrom_35 rfl (lv_at hl 1 rfl) ?_
  refine g_267 C hH hq1.1 dX3_copyFrom_36 ?_
  obtain ⟨μ8, e9, h⟩ := bd_e h
  refine p_267 C hH hS hq.1 dX3_copyFrom_39 (fun H locs hH hS => ?_)
  have hH := Hd.to e9 hH
  refine lv_aload_n hx hb dX3_copyFrom_42 rfl (lv_at hl 0 rfl) ?_
  refine lv_aload_n hx hb dX3_copyFrom_43 rfl (lv_at hl 1 rfl) ?_
  refine g_270 C hH hq1.1 dX3_copyFrom_44 ?_
  obtain ⟨μ10, e11, h⟩ := bd_e h
  refine p_270 C hH hS hq.1 dX3_copyFrom_47 (fun H locs hH hS => ?_)
  have hH := Hd.to e11 hH
  refine lv_aload_n hx hb dX3_copyFrom_50 rfl (lv_at hl 0 rfl) ?_
  refine lv_aload_n hx hb dX3_copyFrom_51 rfl (lv_at hl 1 rfl) ?_
  refine g_273 C hH hq1.1 dX3_copyFrom_52 ?_
  obtain ⟨μ12, e13, h⟩ := bd_e h
  refine p_273 C hH hS hq.1 dX3_copyFrom_55 (fun H locs hH hS => ?_)
  have hH := Hd.to e13 hH
  refine lv_aload_n hx hb dX3_copyFrom_58 rfl (lv_at hl 0 rfl) ?_
  refine lv_aload_n hx hb dX3_copyFrom_59 rfl (lv_at hl 1 rfl) ?_
  refine g_275 C hH hq1.1 dX3_copyFrom_60 ?_
  obtain ⟨μ14, e15, h⟩ := bd_e h
  refine p_275 C hH hS hq.1 dX3_copyFrom_63 (fun H locs hH hS => ?_)
  have hH := Hd.to e15 hH
  exact h_vret C hr hk hH hS (by cases h; rfl) dX3_copyFrom_66
theorem c_X3_copyFrom {l : Launch} {ω : WW} {q : Nat} {q1 : Nat} (hq : IsQ ω q) (hq1 : IsQ ω q1) {μ : Mem} {μo : Mem} (h : fX3_copyFrom q q1 μ = some μo) : Con l yX3_copyFrom cX3_copyFrom 2 none 3 ω [.ref (wB ω + q), .ref (wB ω + q1)] μ none μo :=
  con_of (by decide) (Nat.le_of_ble_eq_true rfl) (fun p e s m args below meth c ls C hr hk hl hH hS => wX3_copyFrom_e hq hq1 C hr hk hH hS (lv_sub hl [0, 1] rfl) h)
set_option maxHeartbeats 4000000 in
set_option maxRecDepth 100000 in
theorem wX3_begin_s10 {q : Nat} {q1 : Nat} (hq : IsQ ω q) (hq1 : IsS ω q1) (C : Cx ω p s m args c cX3_begin 4 RX3) (hr : meth.sig.returnType = none) (hk : meth.locks = false) {μo : Mem} {x2 : Int32} {x3 : Int32} {rec : Int32 → Mem → Option Mem} (hrec : ∀ (z3 : Int32) (ν : Mem) (H : Heap) (locs : List Loc) (ls : Array Slot), Hd ω ν H → FS ω s H locs → lv_has ls 4 [(0, .ref (wB ω + q)), (1, .ref (wB ω + q1)), (2, .int x2), (3, .int z3)] → rec z3 ν = some μo → W p l e (rmd 2) s m args below meth c H locs 0 0 (MQ below (QR ω none μo) args s 0 0 (wA ω)) (F0 m 10 ls [])) {K : Mem → Option Mem} (hK : ∀ (ν : Mem) (H : Heap) (locs : List Loc) (ls : Array Slot), Hd ω ν H → FS ω s H locs → lv_has ls 4 [(0, .ref (wB ω + q)), (1, .ref (wB ω + q1)), (2, .int x2)] → K ν = some μo → W p l e (rmd 2) s m args below meth c H locs 0 0 (MQ below (QR ω none μo) args s 0 0 (wA ω)) (F0 m 29 ls [])) {μ : Mem} {H : Heap} {locs : List Loc} {ls : Array Slot} (hH : Hd ω μ H) (hS : FS ω s H locs) (hl : lv_has ls 4 [(0, .ref (wB ω + q)), (1, .ref (wB ω + q1)), (2, .int x2), (3, .int x3)]) (h : fX3_begin_s10 rec K q q1 x2 x3 μ = some μo) : W p l e (rmd 2) s m args below meth c H locs 0 0 (MQ below (QR ω none μo) args s 0 0 (wA ω)) (F0 m 10 ls []) := by
  have hx := C.1
  have hb := C.2.1
  unfold fX3_begin_s10 at h
  refine lv_iload_n hx hb dX3_begin_10 rfl (lv_at hl 3 rfl) ?_
  refine lv_bipush (v := 7) hx hb dX3_begin_11 (by decide) ?_
  refine lv_icmp_ge (tgt := 29) hx hb dX3_begin_13 (by decide) (fun hc => ?_) (fun hc => ?_)
  · have h := ite_t hc h
    exact hK _ H locs ls hH hS (lv_sub hl [0, 1, 2] rfl) h
  · have h := ite_f hc h
    refine lv_aload_n hx hb dX3_begin_16 rfl (lv_at hl 1 rfl) ?_
    refine lv_iload_n hx hb dX3_begin_17 rfl (lv_at hl 2 rfl) ?_
    refine lv_iload_n hx hb dX3_begin_18 rfl (lv_at hl 3 rfl) ?_
    refine lv_iconst (v := 0) hx hb dX3_begin_19 (by decide) ?_
    obtain ⟨μ2, e1, h⟩ := b1_e h
    refine cVv (as := [.int x2, .int x3, .int 0]) (rest := []) (c_X7_set hq1 e1) C hl.1 hH hS rfl hq1.1 rfl wd_721 wd_720 mw_X7_set wd_719 rfl (rm_ok (by decide) (by decide)) (Nat.le_of_ble_eq_true rfl) ⟨Nat.zero_le _, Nat.zero_le _⟩ (by decide) dX3_begin_20 (fun H locs hH hS => ?_)
    refine lv_iinc (v := x3 + 1) (lv' := [(3, .int (x3 + 1)), (0, .ref (wB ω + q)), (1, .ref (wB ω + q1)), (2, .int x2)]) hx hb dX3_begin_23 hl (k := 3) rfl rfl (by decide) rfl (fun ls hl => ?_)
    refine lv_goto (tgt := 10) hx hb dX3_begin_26 (by decide) ?_
    exact hrec _ _ H locs ls hH hS (lv_sub hl [1, 2, 3, 0] rfl) h
theorem wX3_begin_l10 {q : Nat} {q1 : Nat} (hq : IsQ ω q) (hq1 : IsS ω q1) (C : Cx ω p s m args c cX3_begin 4 RX3) (hr : meth.sig.returnType = none) (hk : meth.locks = false) {μo : Mem} {x2 : Int32} {K : Mem → Option Mem} (hK : ∀ (ν : Mem) (H : Heap) (locs : List Loc) (ls : Array Slot), Hd ω ν H → FS ω s H locs → lv_has ls 4 [(0, .ref (wB ω + q)), (1, .ref (wB ω + q1)), (2, .int x2)] → K ν = some μo → W p l e (rmd 2) s m args below meth c H locs 0 0 (MQ below (QR ω none μo) args s 0 0 (wA ω)) (F0 m 29 ls [])) : ∀ (n : Nat) (x3 : Int32) (μ : Mem) (H : Heap) (locs : List Loc) (ls : Array Slot), Hd ω μ H → FS ω s H locs → lv_has ls 4 [(0, .ref (wB ω + q)), (1, .ref (wB ω + q1)), (2, .int x2), (3, .int x3)] → fX3_begin_l10 K q q1 x2 n x3 μ = some μo → W p l e (rmd 2) s m args below meth c H locs 0 0 (MQ below (QR ω none μo) args s 0 0 (wA ω)) (F0 m 10 ls []) := by
  intro n
  induction n with
  | zero => intro x3 μ H locs ls hH hS hl h; cases h
  | succ n ih => intro x3 μ H locs ls hH hS hl h; exact wX3_begin_s10 hq hq1 C hr hk ih hK hH hS hl h
set_option maxHeartbeats 4000000 in
set_option maxRecDepth 100000 in
theorem wX3_begin_s2 {q : Nat} {q1 : Nat} (hq : IsQ ω q) (hq1 : IsS ω q1) (C : Cx ω p s m args c cX3_begin 4 RX3) (hr : meth.sig.returnType = none) (hk : meth.locks = false) {μo : Mem} {x2 : Int32} {rec : Int32 → Mem → Option Mem} (hrec : ∀ (z2 : Int32) (ν : Mem) (H : Heap) (locs : List Loc) (ls : Array Slot), Hd ω ν H → FS ω s H locs → lv_has ls 4 [(0, .ref (wB ω + q)), (1, .ref (wB ω + q1)), (2, .int z2)] → rec z2 ν = some μo → W p l e (rmd 2) s m args below meth c H locs 0 0 (MQ below (QR ω none μo) args s 0 0 (wA ω)) (F0 m 2 ls [])) {K : Mem → Option Mem} (hK : ∀ (ν : Mem) (H : Heap) (locs : List Loc) (ls : Array Slot), Hd ω ν H → FS ω s H locs → lv_has ls 4 [(0, .ref (wB ω + q)), (1, .ref (wB ω + q1))] → K ν = some μo → W p l e (rmd 2) s m args below meth c H locs 0 0 (MQ below (QR ω none μo) args s 0 0 (wA ω)) (F0 m 35 ls [])) {μ : Mem} {H : Heap} {locs : List Loc} {ls : Array Slot} (hH : Hd ω μ H) (hS : FS ω s H locs) (hl : lv_has ls 4 [(0, .ref (wB ω + q)), (1, .ref (wB ω + q1)), (2, .int x2)]) (h : fX3_begin_s2 rec K q q1 x2 μ = some μo) : W p l e (rmd 2) s m args below meth c H locs 0 0 (MQ below (QR ω none μo) args s 0 0 (wA ω)) (F0 m 2 ls []) := by
  have hx := C.1
  have hb := C.2.1
  unfold fX3_begin_s2 at h
  refine lv_iload_n hx hb dX3_begin_2 rfl (lv_at hl 2 rfl) ?_
  refine lv_bipush (v := 6) hx hb dX3_begin_3 (by decide) ?_
  refine lv_icmp_ge (tgt := 35) hx hb dX3_begin_5 (by decide) (fun hc => ?_) (fun hc => ?_)
  · have h := ite_t hc h
    exact hK _ H locs ls hH hS (lv_sub hl [0, 1] rfl) h
  · have h := ite_f hc h
    refine lv_iconst (v := 0) hx hb dX3_begin_8 (by decide) ?_
    refine lv_istore_n (lv' := [(3, .int 0), (0, .ref (wB ω + q)), (1, .ref (wB ω + q1)), (2, .int x2)]) hx hb dX3_begin_9 rfl hl (by decide) rfl (fun ls hl => ?_)
    refine wX3_begin_l10 hq hq1 C hr hk (fun μ3 H locs ls hH hS hl h => ?_) FU _ _ H locs ls hH hS (lv_sub hl [1, 2, 3, 0] rfl) h
    refine lv_iinc (v := x2 + 1) (lv' := [(2, .int (x2 + 1)), (0, .ref (wB ω + q)), (1, .ref (wB ω + q1))]) hx hb dX3_begin_29 hl (k := 2) rfl rfl (by decide) rfl (fun ls hl => ?_)
    refine lv_goto (tgt := 2) hx hb dX3_begin_32 (by decide) ?_
    exact hrec _ _ H locs ls hH hS (lv_sub hl [1, 2, 0] rfl) h
theorem wX3_begin_l2 {q : Nat} {q1 : Nat} (hq : IsQ ω q) (hq1 : IsS ω q1) (C : Cx ω p s m args c cX3_begin 4 RX3) (hr : meth.sig.returnType = none) (hk : meth.locks = false) {μo : Mem} {K : Mem → Option Mem} (hK : ∀ (ν : Mem) (H : Heap) (locs : List Loc) (ls : Array Slot), Hd ω ν H → FS ω s H locs → lv_has ls 4 [(0, .ref (wB ω + q)), (1, .ref (wB ω + q1))] → K ν = some μo → W p l e (rmd 2) s m args below meth c H locs 0 0 (MQ below (QR ω none μo) args s 0 0 (wA ω)) (F0 m 35 ls [])) : ∀ (n : Nat) (x2 : Int32) (μ : Mem) (H : Heap) (locs : List Loc) (ls : Array Slot), Hd ω μ H → FS ω s H locs → lv_has ls 4 [(0, .ref (wB ω + q)), (1, .ref (wB ω + q1)), (2, .int x2)] → fX3_begin_l2 K q q1 n x2 μ = some μo → W p l e (rmd 2) s m args below meth c H locs 0 0 (MQ below (QR ω none μo) args s 0 0 (wA ω)) (F0 m 2 ls []) := by
  intro n
  induction n with
  | zero => intro x2 μ H locs ls hH hS hl h; cases h
  | succ n ih => intro x2 μ H locs ls hH hS hl h; exact wX3_begin_s2 hq hq1 C hr hk ih hK hH hS hl h
set_option maxHeartbeats 4000000 in
set_option maxRecDepth 100000 in
theorem wX3_begin_s37 {q : Nat} {q1 : Nat} (hq : IsQ ω q) (hq1 : IsS ω q1) (C : Cx ω p s m args c cX3_begin 4 RX3) (hr : meth.sig.returnType = none) (hk : meth.locks = false) {μo : Mem} {x2 : Int32} {rec : Int32 → Mem → Option Mem} (hrec : ∀ (z2 : Int32) (ν : Mem) (H : Heap) (locs : List Loc) (ls : Array Slot), Hd ω ν H → FS ω s H locs → lv_has ls 4 [(0, .ref (wB ω + q)), (1, .ref (wB ω + q1)), (2, .int z2)] → rec z2 ν = some μo → W p l e (rmd 2) s m args below meth c H locs 0 0 (MQ below (QR ω none μo) args s 0 0 (wA ω)) (F0 m 37 ls [])) {K : Mem → Option Mem} (hK : ∀ (ν : Mem) (H : Heap) (locs : List Loc) (ls : Array Slot), Hd ω ν H → FS ω s H locs → lv_has ls 4 [(0, .ref (wB ω + q)), (1, .ref (wB ω + q1))] → K ν = some μo → W p l e (rmd 2) s m args below meth c H locs 0 0 (MQ below (QR ω none μo) args s 0 0 (wA ω)) (F0 m 87 ls [])) {μ : Mem} {H : Heap} {locs : List Loc} {ls : Array Slot} (hH : Hd ω μ H) (hS : FS ω s H locs) (hl : lv_has ls 4 [(0, .ref (wB ω + q)), (1, .ref (wB ω + q1)), (2, .int x2)]) (h : fX3_begin_s37 rec K q q1 x2 μ = some μo) : W p l e (rmd 2) s m args below meth c H locs 0 0 (MQ below (QR ω none μo) args s 0 0 (wA ω)) (F0 m 37 ls []) := by
  have hx := C.1
  have hb := C.2.1
  unfold fX3_begin_s37 at h
  refine lv_iload_n hx hb dX3_begin_37 rfl (lv_at hl 2 rfl) ?_
  refine lv_aload_n hx hb dX3_begin_38 rfl (lv_at hl 0 rfl) ?_
  refine g_261 C hH hq.1 dX3_begin_39 ?_
  refine lv_icmp_ge (tgt := 87) hx hb dX3_begin_42 (by decide) (fun hc => ?_) (fun hc => ?_)
  · have h := ite_t hc h
    exact hK _ H locs ls hH hS (lv_sub hl [0, 1] rfl) h
  · have h := ite_f hc h
    refine lv_aload_n hx hb dX3_begin_45 rfl (lv_at hl 1 rfl) ?_
    refine lv_iload_n hx hb dX3_begin_46 rfl (lv_at hl 2 rfl) ?_
    refine lv_iconst (v := 0) hx hb dX3_begin_47 (by decide) ?_
    refine lv_aload_n hx hb dX3_begin_48 rfl (lv_at hl 0 rfl) ?_
    refine lv_iload_n hx hb dX3_begin_49 rfl (lv_at hl 2 rfl) ?_
    refine lv_iconst (v := 0) hx hb dX3_begin_50 (by decide) ?_
    obtain ⟨r6, e5, h⟩ := b1_e h
    refine cVi (as := [.int x2, .int 0]) (rest := [.int 0, .int x2, .ref (wB ω + q1)]) (c_X3_number hq e5) C hl.1 hH hS rfl hq.1 rfl wd_725 wd_724 mw_X3_number wd_723 rfl (rm_ok (by decide) (by decide)) (Nat.le_of_ble_eq_true rfl) ⟨Nat.zero_le _, Nat.zero_le _⟩ (by decide) dX3_begin_51 (fun H locs hH hS => ?_)
    obtain ⟨μ8, e7, h⟩ := b1_e h
    refine cVv (as := [.int x2, .int 0, .int r6]) (rest := []) (c_X7_set hq1 e7) C hl.1 hH hS rfl hq1.1 rfl wd_721 wd_720 mw_X7_set wd_719 rfl (rm_ok (by decide) (by decide)) (Nat.le_of_ble_eq_true rfl) ⟨Nat.zero_le _, Nat.zero_le _⟩ (by decide) dX3_begin_54 (fun H locs hH hS => ?_)
    refine lv_aload_n hx hb dX3_begin_57 rfl (lv_at hl 1 rfl) ?_
    refine lv_iload_n hx hb dX3_begin_58 rfl (lv_at hl 2 rfl) ?_
    refine lv_iconst (v := 2) hx hb dX3_begin_59 (by decide) ?_
    refine lv_aload_n hx hb dX3_begin_60 rfl (lv_at hl 0 rfl) ?_
    refine lv_iload_n hx hb dX3_begin_61 rfl (lv_at hl 2 rfl) ?_
    refine lv_iconst (v := 1) hx hb dX3_begin_62 (by decide) ?_
    obtain ⟨r10, e9, h⟩ := b1_e h
    refine cVi (as := [.int x2, .int 1]) (rest := [.int 2, .int x2, .ref (wB ω + q1)]) (c_X3_number hq e9) C hl.1 hH hS rfl hq.1 rfl wd_725 wd_724 mw_X3_number wd_723 rfl (rm_ok (by decide) (by decide)) (Nat.le_of_ble_eq_true rfl) ⟨Nat.zero_le _, Nat.zero_le _⟩ (by decide) dX3_begin_63 (fun H locs hH hS => ?_)
    obtain ⟨μ12, e11, h⟩ := b1_e h
    refine cVv (as := [.int x2, .int 2, .int r10]) (rest := []) (c_X7_set hq1 e11) C hl.1 hH hS rfl hq1.1 rfl wd_721 wd_720 mw_X7_set wd_719 rfl (rm_ok (by decide) (by decide)) (Nat.le_of_ble_eq_true rfl) ⟨Nat.zero_le _, Nat.zero_le _⟩ (by decide) dX3_begin_66 (fun H locs hH hS => ?_)
    refine lv_aload_n hx hb dX3_begin_69 rfl (lv_at hl 1 rfl) ?_
    refine lv_iload_n hx hb dX3_begin_70 rfl (lv_at hl 2 rfl) ?_
    refine lv_iconst (v := 3) hx hb dX3_begin_71 (by decide) ?_
    refine lv_aload_n hx hb dX3_begin_72 rfl (lv_at hl 0 rfl) ?_
    refine lv_iload_n hx hb dX3_begin_73 rfl (lv_at hl 2 rfl) ?_
    refine lv_iconst (v := 2) hx hb dX3_begin_74 (by decide) ?_
    obtain ⟨r14, e13, h⟩ := b1_e h
    refine cVi (as := [.int x2, .int 2]) (rest := [.int 3, .int x2, .ref (wB ω + q1)]) (c_X3_number hq e13) C hl.1 hH hS rfl hq.1 rfl wd_725 wd_724 mw_X3_number wd_723 rfl (rm_ok (by decide) (by decide)) (Nat.le_of_ble_eq_true rfl) ⟨Nat.zero_le _, Nat.zero_le _⟩ (by decide) dX3_begin_75 (fun H locs hH hS => ?_)
    obtain ⟨μ16, e15, h⟩ := b1_e h
    refine cVv (as := [.int x2, .int 3, .int r14]) (rest := []) (c_X7_set hq1 e15) C hl.1 hH hS rfl hq1.1 rfl wd_721 wd_720 mw_X7_set wd_719 rfl (rm_ok (by decide) (by decide)) (Nat.le_of_ble_eq_true rfl) ⟨Nat.zero_le _, Nat.zero_le _⟩ (by decide) dX3_begin_78 (fun H locs hH hS => ?_)
    refine lv_iinc (v := x2 + 1) (lv' := [(2, .int (x2 + 1)), (0, .ref (wB ω + q)), (1, .ref (wB ω + q1))]) hx hb dX3_begin_81 hl (k := 2) rfl rfl (by decide) rfl (fun ls hl => ?_)
    refine lv_goto (tgt := 37) hx hb dX3_begin_84 (by decide) ?_
    exact hrec _ _ H locs ls hH hS (lv_sub hl [1, 2, 0] rfl) h
theorem wX3_begin_l37 {q : Nat} {q1 : Nat} (hq : IsQ ω q) (hq1 : IsS ω q1) (C : Cx ω p s m args c cX3_begin 4 RX3) (hr : meth.sig.returnType = none) (hk : meth.locks = false) {μo : Mem} {K : Mem → Option Mem} (hK : ∀ (ν : Mem) (H : Heap) (locs : List Loc) (ls : Array Slot), Hd ω ν H → FS ω s H locs → lv_has ls 4 [(0, .ref (wB ω + q)), (1, .ref (wB ω + q1))] → K ν = some μo → W p l e (rmd 2) s m args below meth c H locs 0 0 (MQ below (QR ω none μo) args s 0 0 (wA ω)) (F0 m 87 ls [])) : ∀ (n : Nat) (x2 : Int32) (μ : Mem) (H : Heap) (locs : List Loc) (ls : Array Slot), Hd ω μ H → FS ω s H locs → lv_has ls 4 [(0, .ref (wB ω + q)), (1, .ref (wB ω + q1)), (2, .int x2)] → fX3_begin_l37 K q q1 n x2 μ = some μo → W p l e (rmd 2) s m args below meth c H locs 0 0 (MQ below (QR ω none μo) args s 0 0 (wA ω)) (F0 m 37 ls []) := by
  intro n
  induction n with
  | zero => intro x2 μ H locs ls hH hS hl h; cases h
  | succ n ih => intro x2 μ H locs ls hH hS hl h; exact wX3_begin_s37 hq hq1 C hr hk ih hK hH hS hl h
set_option maxHeartbeats 4000000 in
set_option maxRecDepth 100000 in
theorem wX3_begin_e {q : Nat} {q1 : Nat} (hq : IsQ ω q) (hq1 : IsS ω q1) (C : Cx ω p s m args c cX3_begin 4 RX3) (hr : meth.sig.returnType = none) (hk : meth.locks = false) {μo : Mem} {μ : Mem} {H : Heap} {locs : List Loc} {ls : Array Slot} (hH : Hd ω μ H) (hS : FS ω s H locs) (hl : lv_has ls 4 [(0, .ref (wB ω + q)), (1, .ref (wB ω + q1))]) (h : fX3_begin q q1 μ = some μo) : W p l e (rmd 2) s m args below meth c H locs 0 0 (MQ below (QR ω none μo) args s 0 0 (wA ω)) (F0 m 0 ls []) := by
  have hx := C.1
  have hb := C.2.1
  unfold fX3_begin at h
  refine lv_iconst (v := 0) hx hb dX3_begin_0 (by decide) ?_
  refine lv_istore_n (lv' := [(2, .int 0), (0, .ref (wB ω + q)), (1, .ref (wB ω + q1))]) hx hb dX3_begin_1 rfl hl (by decide) rfl (fun ls hl => ?_)
  refine wX3_begin_l2 hq hq1 C hr hk (fun μ4 H locs ls hH hS hl h => ?_) FU _ _ H locs ls hH hS (lv_sub hl [1, 2, 0] rfl) h
  refine lv_iconst (v := 0) hx hb dX3_begin_35 (by decide) ?_
  refine lv_istore_n (lv' := [(2, .int 0), (0, .ref (wB ω + q)), (1, .ref (wB ω + q1))]) hx hb dX3_begin_36 rfl hl (by decide) rfl (fun ls hl => ?_)
  refine wX3_begin_l37 hq hq1 C hr hk (fun μ17 H locs ls hH hS hl h => ?_) FU _ _ H locs ls hH hS (lv_sub hl [1, 2, 0] rfl) h
  refine lv_aload_n hx hb dX3_begin_87 rfl (lv_at hl 1 rfl) ?_
  refine lv_iconst (v := 0) hx hb dX3_begin_88 (by decide) ?_
  obtain ⟨μ18, e19, h⟩ := bd_e h
  refine p_324 C hH hS hq1.1 dX3_begin_89 (fun H locs hH hS => ?_)
  have hH := Hd.to e19 hH
  refine lv_aload_n hx hb dX3_begin_92 rfl (lv_at hl 1 rfl) ?_
  refine lv_aload_n hx hb dX3_begin_93 rfl (lv_at hl 0 rfl) ?_
  refine g_267 C hH hq.1 dX3_begin_94 ?_
  obtain ⟨μ20, e21, h⟩ := bd_e h
  refine p_330 C hH hS hq1.1 dX3_begin_97 (fun H locs hH hS => ?_)
  have hH := Hd.to e21 hH
  refine lv_aload_n hx hb dX3_begin_100 rfl (lv_at hl 1 rfl) ?_
  refine lv_iconst (v := 0) hx hb dX3_begin_101 (by decide) ?_
  obtain ⟨μ22, e23, h⟩ := bd_e h
  refine p_332 C hH hS hq1.1 dX3_begin_102 (fun H locs hH hS => ?_)
  have hH := Hd.to e23 hH
  refine lv_aload_n hx hb dX3_begin_105 rfl (lv_at hl 1 rfl) ?_
  refine lv_iconst (v := 0) hx hb dX3_begin_106 (by decide) ?_
  obtain ⟨μ24, e25, h⟩ := bd_e h
  refine p_335 C hH hS hq1.1 dX3_begin_107 (fun H locs hH hS => ?_)
  have hH := Hd.to e25 hH
  exact h_vret C hr hk hH hS (by cases h; rfl) dX3_begin_110
theorem c_X3_begin {l : Launch} {ω : WW} {q : Nat} {q1 : Nat} (hq : IsQ ω q) (hq1 : IsS ω q1) {μ : Mem} {μo : Mem} (h : fX3_begin q q1 μ = some μo) : Con l yX3_begin cX3_begin 4 none 2 ω [.ref (wB ω + q), .ref (wB ω + q1)] μ none μo :=
  con_of (by decide) (Nat.le_of_ble_eq_true rfl) (fun p e s m args below meth c ls C hr hk hl hH hS => wX3_begin_e hq hq1 C hr hk hH hS (lv_sub hl [0, 1] rfl) h)
set_option maxHeartbeats 4000000 in
set_option maxRecDepth 100000 in
theorem wX11_read_b37 (hW : FWC ω) (C : Cx ω p s m args c cX11_read 2 RX11) (hr : meth.sig.returnType = some .int) (hk : meth.locks = false) {rr : Int32} {μo : Mem} {x1 : Int32} {k1 : Int32} {μ : Mem} {H : Heap} {locs : List Loc} {ls : Array Slot} (hH : Hd ω μ H) (hS : FS ω s H locs) (hl : lv_has ls 2 [(0, .ref (wB ω + 1)), (1, .int x1)]) (h : fX11_read_b37 x1 k1 μ = some (rr, μo)) : W p l e (rmd 38) s m args below meth c H locs 0 0 (MQ below (QR ω (some (.int rr)) μo) args s 0 0 (wA ω)) (F0 m 37 ls [.int k1, .ref (wB ω + 1)]) := by
  have hx := C.1
  have hb := C.2.1
  unfold fX11_read_b37 at h
  obtain ⟨μ6, e7, h⟩ := bd_e h
  refine p_490 C hH hS (jC_1 hW) dX11_read_37 (fun H locs hH hS => ?_)
  have hH := Hd.to e7 hH
  refine lv_iload_n hx hb dX11_read_40 rfl (lv_at hl 1 rfl) ?_
  refine lv_if_ne (tgt := 84) hx hb dX11_read_41 (by decide) (fun hc => ?_) (fun hc => ?_)
  · have h := ite_f hc h
    refine lv_iload_n hx hb dX11_read_84 rfl (lv_at hl 1 rfl) ?_
    exact h_iret C hr hk hH hS rfl (by cases h; rfl) dX11_read_85
  · have h := ite_t hc h
    refine lv_aload_n hx hb dX11_read_44 rfl (lv_at hl 0 rfl) ?_
    refine g_476 (i := 17) C hH (jC_1 hW) rfl dX11_read_45 ?_
    refine lv_aload_n hx hb dX11_read_48 rfl (lv_at hl 0 rfl) ?_
    refine g_475 (i := 3) C hH (jC_1 hW) rfl dX11_read_49 ?_
    refine g_295 (i := 9) C hH (jC_3 hW) rfl dX11_read_52 ?_
    obtain ⟨μ9, e8, h⟩ := b1_e h
    refine cVv (as := [.ref (wB ω + 9)]) (rest := []) (c_X3_copyFrom (qC_17 hW) (qC_9 hW) e8) C hl.1 hH hS rfl (jC_17 hW) rfl wd_705 wd_704 mw_X3_copyFrom wd_703 rfl (rm_ok (by decide) (by decide)) (Nat.le_of_ble_eq_true rfl) ⟨Nat.zero_le _, Nat.zero_le _⟩ (by decide) dX11_read_55 (fun H locs hH hS => ?_)
    refine lv_aload_n hx hb dX11_read_58 rfl (lv_at hl 0 rfl) ?_
    refine g_476 (i := 17) C hH (jC_1 hW) rfl dX11_read_59 ?_
    refine lv_aload_n hx hb dX11_read_62 rfl (lv_at hl 0 rfl) ?_
    refine g_477 (i := 24) C hH (jC_1 hW) rfl dX11_read_63 ?_
    obtain ⟨μ11, e10, h⟩ := b1_e h
    refine cVv (as := [.ref (wB ω + 24)]) (rest := []) (c_X3_begin (qC_17 hW) (sC_24 hW) e10) C hl.1 hH hS rfl (jC_17 hW) rfl wd_717 wd_716 mw_X3_begin wd_715 rfl (rm_ok (by decide) (by decide)) (Nat.le_of_ble_eq_true rfl) ⟨Nat.zero_le _, Nat.zero_le _⟩ (by decide) dX11_read_66 (fun H locs hH hS => ?_)
    refine lv_aload_n hx hb dX11_read_69 rfl (lv_at hl 0 rfl) ?_
    refine g_480 (i := 30) C hH (jC_1 hW) rfl dX11_read_70 ?_
    obtain ⟨μ13, e12, h⟩ := b1_e h
    refine cVv (as := []) (rest := []) (c_X0_clearAll hW e12) C hl.1 hH hS rfl (jC_30 hW) rfl wd_729 wd_728 mw_X0_clearAll wd_727 rfl (rm_ok (by decide) (by decide)) (Nat.le_of_ble_eq_true rfl) ⟨Nat.zero_le _, Nat.zero_le _⟩ (by decide) dX11_read_73 (fun H locs hH hS => ?_)
    refine lv_aload_n hx hb dX11_read_76 rfl (lv_at hl 0 rfl) ?_
    refine g_487 (i := 186) C hH (jC_1 hW) rfl dX11_read_77 ?_
    refine lv_iconst (v := 0) hx hb dX11_read_80 (by decide) ?_
    obtain ⟨μ14, e15, h⟩ := bd_e h
    refine p_464 C hH hS (jC_186 hW) dX11_read_81 (fun H locs hH hS => ?_)
    have hH := Hd.to e15 hH
    refine lv_iload_n hx hb dX11_read_84 rfl (lv_at hl 1 rfl) ?_
    exact h_iret C hr hk hH hS rfl (by cases h; rfl) dX11_read_85
set_option maxHeartbeats 4000000 in
set_option maxRecDepth 100000 in
theorem wX11_read_e (hW : FWC ω) (C : Cx ω p s m args c cX11_read 2 RX11) (hr : meth.sig.returnType = some .int) (hk : meth.locks = false) {rr : Int32} {μo : Mem} {μ : Mem} {H : Heap} {locs : List Loc} {ls : Array Slot} (hH : Hd ω μ H) (hS : FS ω s H locs) (hl : lv_has ls 2 [(0, .ref (wB ω + 1))]) (h : fX11_read μ = some (rr, μo)) : W p l e (rmd 38) s m args below meth c H locs 0 0 (MQ below (QR ω (some (.int rr)) μo) args s 0 0 (wA ω)) (F0 m 0 ls []) := by
  have hx := C.1
  have hb := C.2.1
  unfold fX11_read at h
  refine lv_aload_n hx hb dX11_read_0 rfl (lv_at hl 0 rfl) ?_
  refine g_475 (i := 3) C hH (jC_1 hW) rfl dX11_read_1 ?_
  refine lv_aload_n hx hb dX11_read_4 rfl (lv_at hl 0 rfl) ?_
  refine g_474 (i := 2) C hH (jC_1 hW) rfl dX11_read_5 ?_
  refine lv_aload_n hx hb dX11_read_8 rfl (lv_at hl 0 rfl) ?_
  refine g_489 C hH (jC_1 hW) dX11_read_9 ?_
  obtain ⟨r3, μ2, e1, h⟩ := b2_e h
  refine cVi (as := [.ref (wB ω + 2), .int (μ.1 1 15)]) (rest := []) (c_X4_readText hW (jC_2 hW) e1) C hl.1 hH hS rfl (jC_3 hW) rfl wd_544 wd_543 mw_X4_readText wd_542 rfl (rm_ok (by decide) (by decide)) (Nat.le_of_ble_eq_true rfl) ⟨Nat.zero_le _, Nat.zero_le _⟩ (by decide) dX11_read_12 (fun H locs hH hS => ?_)
  refine lv_istore_n (lv' := [(1, .int r3), (0, .ref (wB ω + 1))]) hx hb dX11_read_15 rfl hl (by decide) rfl (fun ls hl => ?_)
  refine lv_aload_n hx hb dX11_read_16 rfl (lv_at hl 1 rfl) ?_
  refine lv_iconst (v := 0) hx hb dX11_read_17 (by decide) ?_
  obtain ⟨μ4, e5, h⟩ := bd_e h
  refine p_489 C hH hS (jC_1 hW) dX11_read_18 (fun H locs hH hS => ?_)
  have hH := Hd.to e5 hH
  refine lv_aload_n hx hb dX11_read_21 rfl (lv_at hl 1 rfl) ?_
  refine lv_iload_n hx hb dX11_read_22 rfl (lv_at hl 0 rfl) ?_
  refine lv_if_ne (tgt := 30) hx hb dX11_read_23 (by decide) (fun hc => ?_) (fun hc => ?_)
  · have h := ite_f hc h
    refine lv_aload_n hx hb dX11_read_30 rfl (lv_at hl 1 rfl) ?_
    refine g_475 (i := 3) C hH (jC_1 hW) rfl dX11_read_31 ?_
    refine g_300 C hH (jC_3 hW) dX11_read_34 ?_
    exact wX11_read_b37 hW C hr hk hH hS (lv_sub hl [1, 0] rfl) h
  · have h := ite_t hc h
    refine lv_iconst (v := (-1)) hx hb dX11_read_26 (by decide) ?_
    refine lv_goto (tgt := 37) hx hb dX11_read_27 (by decide) ?_
    exact wX11_read_b37 hW C hr hk hH hS (lv_sub hl [1, 0] rfl) h
theorem c_X11_read {l : Launch} {ω : WW} (hW : FWC ω) {μ : Mem} {rr : Int32} {μo : Mem} (h : fX11_read μ = some (rr, μo)) : Con l yX11_read cX11_read 2 (some .int) 38 ω [.ref (wB ω + 1)] μ (some (.int rr)) μo :=
  con_of (by decide) (Nat.le_of_ble_eq_true rfl) (fun p e s m args below meth c ls C hr hk hl hH hS => wX11_read_e hW C hr hk hH hS (lv_sub hl [0] rfl) h)
set_option maxHeartbeats 4000000 in
set_option maxRecDepth 100000 in
theorem wX11_restore_e (hW : FWC ω) (C : Cx ω p s m args c cX11_restore 2 RX11) (hr : meth.sig.returnType = some .boolean) (hk : meth.locks = false) {rr : Int32} {μo : Mem} {x1 : Int32} {μ : Mem} {H : Heap} {locs : List Loc} {ls : Array Slot} (hH : Hd ω μ H) (hS : FS ω s H locs) (hl : lv_has ls 2 [(0, .ref (wB ω + 1)), (1, .int x1)]) (h : fX11_restore x1 μ = some (rr, μo)) : W p l e (rmd 4) s m args below meth c H locs 0 0 (MQ below (QR ω (some (.int rr)) μo) args s 0 0 (wA ω)) (F0 m 0 ls []) := by
  have hx := C.1
  have hb := C.2.1
  unfold fX11_restore at h
  refine lv_aload_n hx hb dX11_restore_0 rfl (lv_at hl 0 rfl) ?_
  refine g_480 (i := 30) C hH (jC_1 hW) rfl dX11_restore_1 ?_
  refine lv_iload_n hx hb dX11_restore_4 rfl (lv_at hl 1 rfl) ?_
  refine lv_aload_n hx hb dX11_restore_5 rfl (lv_at hl 0 rfl) ?_
  refine g_477 (i := 24) C hH (jC_1 hW) rfl dX11_restore_6 ?_
  obtain ⟨r3, μ2, e1, h⟩ := b2_e h
  refine cVi (as := [.int x1, .ref (wB ω + 24)]) (rest := []) (c_X0_fetch hW (sC_24 hW) e1) C hl.1 hH hS rfl (jC_30 hW) rfl wd_909 wd_908 mw_X0_fetch wd_907 rfl (rm_ok (by decide) (by decide)) (Nat.le_of_ble_eq_true rfl) ⟨Nat.zero_le _, Nat.zero_le _⟩ (by decide) dX11_restore_9 (fun H locs hH hS => ?_)
  exact h_zret (y := r3 &&& 1) C hr hk hH hS rfl (by cases h; rfl) dX11_restore_12
theorem c_X11_restore {l : Launch} {ω : WW} {x1 : Int32} (hW : FWC ω) {μ : Mem} {rr : Int32} {μo : Mem} (h : fX11_restore x1 μ = some (rr, μo)) : Con l yX11_restore cX11_restore 2 (some .boolean) 4 ω [.ref (wB ω + 1), .int x1] μ (some (.int rr)) μo :=
  con_of (by decide) (Nat.le_of_ble_eq_true rfl) (fun p e s m args below meth c ls C hr hk hl hH hS => wX11_restore_e hW C hr hk hH hS (lv_sub hl [0, 1] rfl) h)
set_option maxHeartbeats 4000000 in
set_option maxRecDepth 100000 in
theorem wX5_coverFrom_s27 {D : Nat} (hD : 10 ≤ D) {q1 : Nat} {q2 : Nat} (hW : FWC ω) (hq1 : IsS ω q1) (hq2 : IsQ ω q2) (C : Cx ω p s m args c cX5_coverFrom 8 RX5) (hr : meth.sig.returnType = some .boolean) (hk : meth.locks = false) {rr : Int32} {μo : Mem} {go : Nat → Nat → Int32 → Int32 → Int32 → Mem → Option (Int32 × Mem)} (hgo : ∀ (q1g : Nat) (q2g : Nat) (x3g : Int32) (x4g : Int32) (x5g : Int32) (μ1 : Mem) (rg : Int32) (μ2 : Mem) (_ : IsS ω q1g) (_ : IsQ ω q2g), go q1g q2g x3g x4g x5g μ1 = some (rg, μ2) → Con l yX5_coverFrom cX5_coverFrom 8 (some .boolean) D ω [.ref (wB ω + 180), .ref (wB ω + q1g), .ref (wB ω + q2g), .int x3g, .int x4g, .int x5g] μ1 (some (.int rg)) μ2) {x3 : Int32} {x4 : Int32} {x5 : Int32} {x6 : Int32} {x7 : Int32} {rec : Int32 → Mem → Option (Int32 × Mem)} (hrec : ∀ (z7 : Int32) (ν : Mem) (H : Heap) (locs : List Loc) (ls : Array Slot), Hd ω ν H → FS ω s H locs → lv_has ls 8 [(0, .ref (wB ω + 180)), (1, .ref (wB ω + q1)), (2, .ref (wB ω + q2)), (3, .int x3), (4, .int x4), (5, .int x5), (6, .int x6), (7, .int z7)] → rec z7 ν = some (rr, μo) → W p l e (rmd (D + 1)) s m args below meth c H locs 0 0 (MQ below (QR ω (some (.int rr)) μo) args s 0 0 (wA ω)) (F0 m 27 ls [])) {μ : Mem} {H : Heap} {locs : List Loc} {ls : Array Slot} (hH : Hd ω μ H) (hS : FS ω s H locs) (hl : lv_has ls 8 [(0, .ref (wB ω + 180)), (1, .ref (wB ω + q1)), (2, .ref (wB ω + q2)), (3, .int x3), (4, .int x4), (5, .int x5), (6, .int x6), (7, .int x7)]) (h : fX5_coverFrom_s27 go rec q1 q2 x3 x4 x5 x6 x7 μ = some (rr, μo)) : W p l e (rmd (D + 1)) s m args below meth c H locs 0 0 (MQ below (QR ω (some (.int rr)) μo) args s 0 0 (wA ω)) (F0 m 27 ls []) := by
  have hx := C.1
  have hb := C.2.1
  unfold fX5_coverFrom_s27 at h
  refine lv_iload hx hb dX5_coverFrom_27 (lv_at hl 7 rfl) ?_
  refine lv_iload hx hb dX5_coverFrom_29 (lv_at hl 4 rfl) ?_
  refine lv_icmp_gt (tgt := 128) hx hb dX5_coverFrom_31 (by decide) (fun hc => ?_) (fun hc => ?_)
  · have h := ite_t hc h
    refine lv_iconst (v := 0) hx hb dX5_coverFrom_128 (by decide) ?_
    exact h_zret (y := 0) C hr hk hH hS rfl (by cases h; rfl) dX5_coverFrom_129
  · have h := ite_f hc h
    refine lv_iload hx hb dX5_coverFrom_34 (lv_at hl 7 rfl) ?_
    refine lv_iload hx hb dX5_coverFrom_36 (lv_at hl 5 rfl) ?_
    refine lv_icmp_ge (tgt := 128) hx hb dX5_coverFrom_38 (by decide) (fun hc => ?_) (fun hc => ?_)
    · have h := ite_t hc h
      refine lv_iconst (v := 0) hx hb dX5_coverFrom_128 (by decide) ?_
      exact h_zret (y := 0) C hr hk hH hS rfl (by cases h; rfl) dX5_coverFrom_129
    · have h := ite_f hc h
      refine lv_iload hx hb dX5_coverFrom_41 (lv_at hl 7 rfl) ?_
      refine lv_bipush (v := 6) hx hb dX5_coverFrom_43 (by decide) ?_
      refine lv_icmp_ge (tgt := 128) hx hb dX5_coverFrom_45 (by decide) (fun hc => ?_) (fun hc => ?_)
      · have h := ite_t hc h
        refine lv_iconst (v := 0) hx hb dX5_coverFrom_128 (by decide) ?_
        exact h_zret (y := 0) C hr hk hH hS rfl (by cases h; rfl) dX5_coverFrom_129
      · have h := ite_f hc h
        refine lv_aload_n hx hb dX5_coverFrom_48 rfl (lv_at hl 0 rfl) ?_
        refine g_430 (i := 182) C hH (jC_180 hW) rfl dX5_coverFrom_49 ?_
        refine lv_iload hx hb dX5_coverFrom_52 (lv_at hl 7 rfl) ?_
        obtain ⟨b3, h⟩ := gd_e h
        refine h_iald C hH (jC_182 hW).1 (jC_182 hW).2.1 b3 dX5_coverFrom_54 ?_
        refine lv_iload hx hb dX5_coverFrom_55 (lv_at hl 6 rfl) ?_
        refine lv_iadd hx hb dX5_coverFrom_57 ?_
        refine lv_aload_n hx hb dX5_coverFrom_58 rfl (lv_at hl 2 rfl) ?_
        refine g_269 C hH hq2.1 dX5_coverFrom_59 ?_
        refine lv_icmp_gt (tgt := 122) hx hb dX5_coverFrom_62 (by decide) (fun hc => ?_) (fun hc => ?_)
        · have h := ite_t hc h
          refine lv_iinc (v := x7 + 1) (lv' := [(7, .int (x7 + 1)), (0, .ref (wB ω + 180)), (1, .ref (wB ω + q1)), (2, .ref (wB ω + q2)), (3, .int x3), (4, .int x4), (5, .int x5), (6, .int x6)]) hx hb dX5_coverFrom_122 hl (k := 7) rfl rfl (by decide) rfl (fun ls hl => ?_)
          refine lv_goto (tgt := 27) hx hb dX5_coverFrom_125 (by decide) ?_
          exact hrec _ _ H locs ls hH hS (lv_sub hl [1, 2, 3, 4, 5, 6, 7, 0] rfl) h
        · have h := ite_f hc h
          refine lv_aload_n hx hb dX5_coverFrom_65 rfl (lv_at hl 0 rfl) ?_
          refine g_428 (i := 181) C hH (jC_180 hW) rfl dX5_coverFrom_66 ?_
          refine lv_iload_n hx hb dX5_coverFrom_69 rfl (lv_at hl 3 rfl) ?_
          refine lv_iload hx hb dX5_coverFrom_70 (lv_at hl 7 rfl) ?_
          obtain ⟨b4, h⟩ := gd_e h
          obtain ⟨μ5, e6, h⟩ := bd_e h
          refine h_iast C hH hS (jC_181 hW).1 (jC_181 hW).2.1 b4 dX5_coverFrom_72 (fun H locs hH hS => ?_)
          have hH := Hd.to e6 hH
          refine lv_aload_n hx hb dX5_coverFrom_73 rfl (lv_at hl 0 rfl) ?_
          refine g_430 (i := 182) C hH (jC_180 hW) rfl dX5_coverFrom_74 ?_
          refine lv_iload hx hb dX5_coverFrom_77 (lv_at hl 7 rfl) ?_
          refine lv_dup2_11 hx hb dX5_coverFrom_79 rfl rfl ?_
          obtain ⟨b7, h⟩ := gd_e h
          refine h_iald C hH (jC_182 hW).1 (jC_182 hW).2.1 b7 dX5_coverFrom_80 ?_
          refine lv_iload hx hb dX5_coverFrom_81 (lv_at hl 6 rfl) ?_
          refine lv_iadd hx hb dX5_coverFrom_83 ?_
          obtain ⟨b8, h⟩ := gd_e h
          obtain ⟨μ9, e10, h⟩ := bd_e h
          refine h_iast C hH hS (jC_182 hW).1 (jC_182 hW).2.1 b8 dX5_coverFrom_84 (fun H locs hH hS => ?_)
          have hH := Hd.to e10 hH
          refine lv_aload_n hx hb dX5_coverFrom_85 rfl (lv_at hl 0 rfl) ?_
          refine lv_aload_n hx hb dX5_coverFrom_86 rfl (lv_at hl 1 rfl) ?_
          refine lv_aload_n hx hb dX5_coverFrom_87 rfl (lv_at hl 2 rfl) ?_
          refine lv_iload_n hx hb dX5_coverFrom_88 rfl (lv_at hl 3 rfl) ?_
          refine lv_iconst (v := 1) hx hb dX5_coverFrom_89 (by decide) ?_
          refine lv_iadd hx hb dX5_coverFrom_90 ?_
          refine lv_iload hx hb dX5_coverFrom_91 (lv_at hl 4 rfl) ?_
          refine lv_iload hx hb dX5_coverFrom_93 (lv_at hl 7 rfl) ?_
          refine lv_iconst (v := 1) hx hb dX5_coverFrom_95 (by decide) ?_
          refine lv_iadd hx hb dX5_coverFrom_96 ?_
          refine h_mmax C hl.1 wd_1094 (rest := [.int (x3 + 1), .ref (wB ω + q2), .ref (wB ω + q1), .ref (wB ω + 180)]) (rm_1 hD) (rm_13 hD (Nat.le_of_ble_eq_true rfl)) ⟨Nat.zero_le _, Nat.zero_le _⟩ dX5_coverFrom_97 ?_
          refine h_topi (y := jmax x4 (x7 + 1)) rfl ?_
          refine lv_iload hx hb dX5_coverFrom_100 (lv_at hl 5 rfl) ?_
          obtain ⟨r13, μ12, e11, h⟩ := b2_e h
          refine cVi (as := [.ref (wB ω + q1), .ref (wB ω + q2), .int (x3 + 1), .int (jmax x4 (x7 + 1)), .int x5]) (rest := []) (hgo _ _ _ _ _ _ _ _ hq1 hq2 e11) C hl.1 hH hS rfl (jC_180 hW) rfl wd_27 wd_1092 mw_X5_coverFrom wd_1090 rfl (rm_ok (by omega) (by decide)) (Nat.le_of_ble_eq_true rfl) ⟨Nat.zero_le _, Nat.zero_le _⟩ (by decide) dX5_coverFrom_102 (fun H locs hH hS => ?_)
          refine lv_if_eq (tgt := 110) hx hb dX5_coverFrom_105 (by decide) (fun hc => ?_) (fun hc => ?_)
          · have h := ite_t hc h
            refine lv_aload_n hx hb dX5_coverFrom_110 rfl (lv_at hl 0 rfl) ?_
            refine g_430 (i := 182) C hH (jC_180 hW) rfl dX5_coverFrom_111 ?_
            refine lv_iload hx hb dX5_coverFrom_114 (lv_at hl 7 rfl) ?_
            refine lv_dup2_11 hx hb dX5_coverFrom_116 rfl rfl ?_
            obtain ⟨b14, h⟩ := gd_e h
            refine h_iald C hH (jC_182 hW).1 (jC_182 hW).2.1 b14 dX5_coverFrom_117 ?_
            refine lv_iload hx hb dX5_coverFrom_118 (lv_at hl 6 rfl) ?_
            refine lv_isub hx hb dX5_coverFrom_120 ?_
            obtain ⟨b15, h⟩ := gd_e h
            obtain ⟨μ16, e17, h⟩ := bd_e h
            refine h_iast C hH hS (jC_182 hW).1 (jC_182 hW).2.1 b15 dX5_coverFrom_121 (fun H locs hH hS => ?_)
            have hH := Hd.to e17 hH
            refine lv_iinc (v := x7 + 1) (lv' := [(7, .int (x7 + 1)), (0, .ref (wB ω + 180)), (1, .ref (wB ω + q1)), (2, .ref (wB ω + q2)), (3, .int x3), (4, .int x4), (5, .int x5), (6, .int x6)]) hx hb dX5_coverFrom_122 hl (k := 7) rfl rfl (by decide) rfl (fun ls hl => ?_)
            refine lv_goto (tgt := 27) hx hb dX5_coverFrom_125 (by decide) ?_
            exact hrec _ _ H locs ls hH hS (lv_sub hl [1, 2, 3, 4, 5, 6, 7, 0] rfl) h
          · have h := ite_f hc h
            refine lv_iconst (v := 1) hx hb dX5_coverFrom_108 (by decide) ?_
            exact h_zret (y := 1) C hr hk hH hS rfl (by cases h; rfl) dX5_coverFrom_109
theorem wX5_coverFrom_l27 {D : Nat} (hD : 10 ≤ D) {q1 : Nat} {q2 : Nat} (hW : FWC ω) (hq1 : IsS ω q1) (hq2 : IsQ ω q2) (C : Cx ω p s m args c cX5_coverFrom 8 RX5) (hr : meth.sig.returnType = some .boolean) (hk : meth.locks = false) {rr : Int32} {μo : Mem} {go : Nat → Nat → Int32 → Int32 → Int32 → Mem → Option (Int32 × Mem)} (hgo : ∀ (q1g : Nat) (q2g : Nat) (x3g : Int32) (x4g : Int32) (x5g : Int32) (μ1 : Mem) (rg : Int32) (μ2 : Mem) (_ : IsS ω q1g) (_ : IsQ ω q2g), go q1g q2g x3g x4g x5g μ1 = some (rg, μ2) → Con l yX5_coverFrom cX5_coverFrom 8 (some .boolean) D ω [.ref (wB ω + 180), .ref (wB ω + q1g), .ref (wB ω + q2g), .int x3g, .int x4g, .int x5g] μ1 (some (.int rg)) μ2) {x3 : Int32} {x4 : Int32} {x5 : Int32} {x6 : Int32} : ∀ (n : Nat) (x7 : Int32) (μ : Mem) (H : Heap) (locs : List Loc) (ls : Array Slot), Hd ω μ H → FS ω s H locs → lv_has ls 8 [(0, .ref (wB ω + 180)), (1, .ref (wB ω + q1)), (2, .ref (wB ω + q2)), (3, .int x3), (4, .int x4), (5, .int x5), (6, .int x6), (7, .int x7)] → fX5_coverFrom_l27 go q1 q2 x3 x4 x5 x6 n x7 μ = some (rr, μo) → W p l e (rmd (D + 1)) s m args below meth c H locs 0 0 (MQ below (QR ω (some (.int rr)) μo) args s 0 0 (wA ω)) (F0 m 27 ls []) := by
  intro n
  induction n with
  | zero => intro x7 μ H locs ls hH hS hl h; cases h
  | succ n ih => intro x7 μ H locs ls hH hS hl h; exact wX5_coverFrom_s27 hD hW hq1 hq2 C hr hk hgo ih hH hS hl h
set_option maxHeartbeats 4000000 in
set_option maxRecDepth 100000 in
theorem wX5_coverFrom_b {D : Nat} (hD : 10 ≤ D) {q1 : Nat} {q2 : Nat} (hW : FWC ω) (hq1 : IsS ω q1) (hq2 : IsQ ω q2) (C : Cx ω p s m args c cX5_coverFrom 8 RX5) (hr : meth.sig.returnType = some .boolean) (hk : meth.locks = false) {rr : Int32} {μo : Mem} {go : Nat → Nat → Int32 → Int32 → Int32 → Mem → Option (Int32 × Mem)} (hgo : ∀ (q1g : Nat) (q2g : Nat) (x3g : Int32) (x4g : Int32) (x5g : Int32) (μ1 : Mem) (rg : Int32) (μ2 : Mem) (_ : IsS ω q1g) (_ : IsQ ω q2g), go q1g q2g x3g x4g x5g μ1 = some (rg, μ2) → Con l yX5_coverFrom cX5_coverFrom 8 (some .boolean) D ω [.ref (wB ω + 180), .ref (wB ω + q1g), .ref (wB ω + q2g), .int x3g, .int x4g, .int x5g] μ1 (some (.int rg)) μ2) {x3 : Int32} {x4 : Int32} {x5 : Int32} {μ : Mem} {H : Heap} {locs : List Loc} {ls : Array Slot} (hH : Hd ω μ H) (hS : FS ω s H locs) (hl : lv_has ls 8 [(0, .ref (wB ω + 180)), (1, .ref (wB ω + q1)), (2, .ref (wB ω + q2)), (3, .int x3), (4, .int x4), (5, .int x5)]) (h : fX5_coverFrom_b go q1 q2 x3 x4 x5 μ = some (rr, μo)) : W p l e (rmd (D + 1)) s m args below meth c H locs 0 0 (MQ below (QR ω (some (.int rr)) μo) args s 0 0 (wA ω)) (F0 m 0 ls []) := by
  have hx := C.1
  have hb := C.2.1
  unfold fX5_coverFrom_b at h
  refine lv_iload_n hx hb dX5_coverFrom_0 rfl (lv_at hl 3 rfl) ?_
  refine lv_aload_n hx hb dX5_coverFrom_1 rfl (lv_at hl 2 rfl) ?_
  refine g_260 C hH hq2.1 dX5_coverFrom_2 ?_
  refine lv_icmp_ge (tgt := 14) hx hb dX5_coverFrom_5 (by decide) (fun hc => ?_) (fun hc => ?_)
  · have h := ite_t hc h
    refine lv_iconst (v := 1) hx hb dX5_coverFrom_14 (by decide) ?_
    exact h_zret (y := 1) C hr hk hH hS rfl (by cases h; rfl) dX5_coverFrom_15
  · have h := ite_f hc h
    refine lv_iload_n hx hb dX5_coverFrom_8 rfl (lv_at hl 3 rfl) ?_
    refine lv_bipush (v := 6) hx hb dX5_coverFrom_9 (by decide) ?_
    refine lv_icmp_lt (tgt := 16) hx hb dX5_coverFrom_11 (by decide) (fun hc => ?_) (fun hc => ?_)
    · have h := ite_t hc h
      refine lv_aload_n hx hb dX5_coverFrom_16 rfl (lv_at hl 1 rfl) ?_
      refine lv_iload_n hx hb dX5_coverFrom_17 rfl (lv_at hl 3 rfl) ?_
      refine lv_iconst (v := 0) hx hb dX5_coverFrom_18 (by decide) ?_
      obtain ⟨r2, e1, h⟩ := b1_e h
      refine cVi (as := [.int x3, .int 0]) (rest := []) (c_X7_get hq1 e1) C hl.1 hH hS rfl hq1.1 rfl wd_745 wd_744 mw_X7_get wd_1089 rfl (rm_ok (by omega) (by decide)) (Nat.le_of_ble_eq_true rfl) ⟨Nat.zero_le _, Nat.zero_le _⟩ (by decide) dX5_coverFrom_19 (fun H locs hH hS => ?_)
      refine lv_istore (lv' := [(6, .int r2), (0, .ref (wB ω + 180)), (1, .ref (wB ω + q1)), (2, .ref (wB ω + q2)), (3, .int x3), (4, .int x4), (5, .int x5)]) hx hb dX5_coverFrom_22 hl (by decide) rfl (fun ls hl => ?_)
      refine lv_iconst (v := 0) hx hb dX5_coverFrom_24 (by decide) ?_
      refine lv_istore (lv' := [(7, .int 0), (6, .int r2), (0, .ref (wB ω + 180)), (1, .ref (wB ω + q1)), (2, .ref (wB ω + q2)), (3, .int x3), (4, .int x4), (5, .int x5)]) hx hb dX5_coverFrom_25 hl (by decide) rfl (fun ls hl => ?_)
      exact wX5_coverFrom_l27 hD hW hq1 hq2 C hr hk hgo FU _ _ H locs ls hH hS (lv_sub hl [2, 3, 4, 5, 6, 7, 1, 0] rfl) h
    · have h := ite_f hc h
      refine lv_iconst (v := 1) hx hb dX5_coverFrom_14 (by decide) ?_
      exact h_zret (y := 1) C hr hk hH hS rfl (by cases h; rfl) dX5_coverFrom_15
theorem c_X5_coverFrom_b {l : Launch} {ω : WW} {D : Nat} (hD : 10 ≤ D) {go : Nat → Nat → Int32 → Int32 → Int32 → Mem → Option (Int32 × Mem)} (hgo : ∀ (q1g : Nat) (q2g : Nat) (x3g : Int32) (x4g : Int32) (x5g : Int32) (μ1 : Mem) (rg : Int32) (μ2 : Mem) (_ : IsS ω q1g) (_ : IsQ ω q2g), go q1g q2g x3g x4g x5g μ1 = some (rg, μ2) → Con l yX5_coverFrom cX5_coverFrom 8 (some .boolean) D ω [.ref (wB ω + 180), .ref (wB ω + q1g), .ref (wB ω + q2g), .int x3g, .int x4g, .int x5g] μ1 (some (.int rg)) μ2) {q1 : Nat} {q2 : Nat} {x3 : Int32} {x4 : Int32} {x5 : Int32} (hW : FWC ω) (hq1 : IsS ω q1) (hq2 : IsQ ω q2) {μ : Mem} {rr : Int32} {μo : Mem} (h : fX5_coverFrom_b go q1 q2 x3 x4 x5 μ = some (rr, μo)) : Con l yX5_coverFrom cX5_coverFrom 8 (some .boolean) (D + 1) ω [.ref (wB ω + 180), .ref (wB ω + q1), .ref (wB ω + q2), .int x3, .int x4, .int x5] μ (some (.int rr)) μo :=
  con_of (by decide) (Nat.le_of_ble_eq_true rfl) (fun p e s m args below meth c ls C hr hk hl hH hS => wX5_coverFrom_b hD hW hq1 hq2 C hr hk hgo hH hS (lv_sub hl [0, 1, 2, 3, 4, 5] rfl) h)
theorem c_X5_coverFrom_n {l : Launch} {ω : WW} (hW : FWC ω) : ∀ (n : Nat) (q1 : Nat) (q2 : Nat) (x3 : Int32) (x4 : Int32) (x5 : Int32) (μ : Mem) (rr : Int32) (μo : Mem) (hq1 : IsS ω q1) (hq2 : IsQ ω q2), fX5_coverFrom n q1 q2 x3 x4 x5 μ = some (rr, μo) → Con l yX5_coverFrom cX5_coverFrom 8 (some .boolean) (10 + 1 * n) ω [.ref (wB ω + 180), .ref (wB ω + q1), .ref (wB ω + q2), .int x3, .int x4, .int x5] μ (some (.int rr)) μo := by
  intro n
  induction n with
  | zero => intro q1 q2 x3 x4 x5 μ rr μo hq1 hq2 h; cases h
  | succ n ih => intro q1 q2 x3 x4 x5 μ rr μo hq1 hq2 h; exact c_X5_coverFrom_b (D := 10 + 1 * n) (by omega) ih hW hq1 hq2 h
set_option maxHeartbeats 4000000 in
set_option maxRecDepth 100000 in
theorem wX5_search_s2 {q1 : Nat} {q2 : Nat} (hW : FWC ω) (hq1 : IsS ω q1) (hq2 : IsQ ω q2) (C : Cx ω p s m args c cX5_search 5 RX5) (hr : meth.sig.returnType = some .int) (hk : meth.locks = false) {rr : Int32} {μo : Mem} {x3 : Int32} {μ : Mem} {rec : Int32 → Option (Int32 × Mem)} (hrec : ∀ (z3 : Int32) (H : Heap) (locs : List Loc) (ls : Array Slot), Hd ω μ H → FS ω s H locs → lv_has ls 5 [(0, .ref (wB ω + 180)), (1, .ref (wB ω + q1)), (2, .ref (wB ω + q2)), (3, .int z3)] → rec z3 = some (rr, μo) → W p l e (rmd 19) s m args below meth c H locs 0 0 (MQ below (QR ω (some (.int rr)) μo) args s 0 0 (wA ω)) (F0 m 2 ls [])) {K : Option (Int32 × Mem)} (hK : ∀ (H : Heap) (locs : List Loc) (ls : Array Slot), Hd ω μ H → FS ω s H locs → lv_has ls 5 [(0, .ref (wB ω + 180)), (1, .ref (wB ω + q1)), (2, .ref (wB ω + q2))] → K = some (rr, μo) → W p l e (rmd 19) s m args below meth c H locs 0 0 (MQ below (QR ω (some (.int rr)) μo) args s 0 0 (wA ω)) (F0 m 32 ls [])) {H : Heap} {locs : List Loc} {ls : Array Slot} (hH : Hd ω μ H) (hS : FS ω s H locs) (hl : lv_has ls 5 [(0, .ref (wB ω + 180)), (1, .ref (wB ω + q1)), (2, .ref (wB ω + q2)), (3, .int x3)]) (h : fX5_search_s2 rec K q1 q2 x3 μ = some (rr, μo)) : W p l e (rmd 19) s m args below meth c H locs 0 0 (MQ below (QR ω (some (.int rr)) μo) args s 0 0 (wA ω)) (F0 m 2 ls []) := by
  have hx := C.1
  have hb := C.2.1
  unfold fX5_search_s2 at h
  refine lv_iload_n hx hb dX5_search_2 rfl (lv_at hl 3 rfl) ?_
  refine lv_aload_n hx hb dX5_search_3 rfl (lv_at hl 2 rfl) ?_
  refine g_260 C hH hq2.1 dX5_search_4 ?_
  refine lv_icmp_ge (tgt := 32) hx hb dX5_search_7 (by decide) (fun hc => ?_) (fun hc => ?_)
  · have h := ite_t hc h
    exact hK H locs ls hH hS (lv_sub hl [0, 1, 2] rfl) h
  · have h := ite_f hc h
    refine lv_aload_n hx hb dX5_search_10 rfl (lv_at hl 1 rfl) ?_
    refine lv_iload_n hx hb dX5_search_11 rfl (lv_at hl 3 rfl) ?_
    refine lv_iconst (v := 0) hx hb dX5_search_12 (by decide) ?_
    obtain ⟨r2, e1, h⟩ := b1_e h
    refine cVi (as := [.int x3, .int 0]) (rest := []) (c_X7_get hq1 e1) C hl.1 hH hS rfl hq1.1 rfl wd_745 wd_744 mw_X7_get wd_1089 rfl (rm_ok (by decide) (by decide)) (Nat.le_of_ble_eq_true rfl) ⟨Nat.zero_le _, Nat.zero_le _⟩ (by decide) dX5_search_13 (fun H locs hH hS => ?_)
    refine lv_aload_n hx hb dX5_search_16 rfl (lv_at hl 2 rfl) ?_
    refine g_269 C hH hq2.1 dX5_search_17 ?_
    refine lv_icmp_le (tgt := 26) hx hb dX5_search_20 (by decide) (fun hc => ?_) (fun hc => ?_)
    · have h := ite_t hc h
      refine lv_iinc (v := x3 + 1) (lv' := [(3, .int (x3 + 1)), (0, .ref (wB ω + 180)), (1, .ref (wB ω + q1)), (2, .ref (wB ω + q2))]) hx hb dX5_search_26 hl (k := 3) rfl rfl (by decide) rfl (fun ls hl => ?_)
      refine lv_goto (tgt := 2) hx hb dX5_search_29 (by decide) ?_
      exact hrec _ H locs ls hH hS (lv_sub hl [1, 2, 3, 0] rfl) h
    · have h := ite_f hc h
      refine lv_bipush (v := (-2)) hx hb dX5_search_23 (by decide) ?_
      exact h_iret C hr hk hH hS rfl (by cases h; rfl) dX5_search_25
theorem wX5_search_l2 {q1 : Nat} {q2 : Nat} (hW : FWC ω) (hq1 : IsS ω q1) (hq2 : IsQ ω q2) (C : Cx ω p s m args c cX5_search 5 RX5) (hr : meth.sig.returnType = some .int) (hk : meth.locks = false) {rr : Int32} {μo : Mem} {μ : Mem} {K : Option (Int32 × Mem)} (hK : ∀ (H : Heap) (locs : List Loc) (ls : Array Slot), Hd ω μ H → FS ω s H locs → lv_has ls 5 [(0, .ref (wB ω + 180)), (1, .ref (wB ω + q1)), (2, .ref (wB ω + q2))] → K = some (rr, μo) → W p l e (rmd 19) s m args below meth c H locs 0 0 (MQ below (QR ω (some (.int rr)) μo) args s 0 0 (wA ω)) (F0 m 32 ls [])) : ∀ (n : Nat) (x3 : Int32) (H : Heap) (locs : List Loc) (ls : Array Slot), Hd ω μ H → FS ω s H locs → lv_has ls 5 [(0, .ref (wB ω + 180)), (1, .ref (wB ω + q1)), (2, .ref (wB ω + q2)), (3, .int x3)] → fX5_search_l2 K q1 q2 μ n x3 = some (rr, μo) → W p l e (rmd 19) s m args below meth c H locs 0 0 (MQ below (QR ω (some (.int rr)) μo) args s 0 0 (wA ω)) (F0 m 2 ls []) := by
  intro n
  induction n with
  | zero => intro x3 H locs ls hH hS hl h; cases h
  | succ n ih => intro x3 H locs ls hH hS hl h; exact wX5_search_s2 hW hq1 hq2 C hr hk ih hK hH hS hl h
set_option maxHeartbeats 4000000 in
set_option maxRecDepth 100000 in
theorem wX5_search_s45 {q1 : Nat} {q2 : Nat} (hW : FWC ω) (hq1 : IsS ω q1) (hq2 : IsQ ω q2) (C : Cx ω p s m args c cX5_search 5 RX5) (hr : meth.sig.returnType = some .int) (hk : meth.locks = false) {rr : Int32} {μo : Mem} {x3 : Int32} {x4 : Int32} {rec : Int32 → Mem → Option (Int32 × Mem)} (hrec : ∀ (z4 : Int32) (ν : Mem) (H : Heap) (locs : List Loc) (ls : Array Slot), Hd ω ν H → FS ω s H locs → lv_has ls 5 [(0, .ref (wB ω + 180)), (1, .ref (wB ω + q1)), (2, .ref (wB ω + q2)), (3, .int x3), (4, .int z4)] → rec z4 ν = some (rr, μo) → W p l e (rmd 19) s m args below meth c H locs 0 0 (MQ below (QR ω (some (.int rr)) μo) args s 0 0 (wA ω)) (F0 m 45 ls [])) {K : Mem → Option (Int32 × Mem)} (hK : ∀ (ν : Mem) (H : Heap) (locs : List Loc) (ls : Array Slot), Hd ω ν H → FS ω s H locs → lv_has ls 5 [(0, .ref (wB ω + 180)), (1, .ref (wB ω + q1)), (2, .ref (wB ω + q2)), (3, .int x3)] → K ν = some (rr, μo) → W p l e (rmd 19) s m args below meth c H locs 0 0 (MQ below (QR ω (some (.int rr)) μo) args s 0 0 (wA ω)) (F0 m 66 ls [])) {μ : Mem} {H : Heap} {locs : List Loc} {ls : Array Slot} (hH : Hd ω μ H) (hS : FS ω s H locs) (hl : lv_has ls 5 [(0, .ref (wB ω + 180)), (1, .ref (wB ω + q1)), (2, .ref (wB ω + q2)), (3, .int x3), (4, .int x4)]) (h : fX5_search_s45 rec K q1 q2 x4 μ = some (rr, μo)) : W p l e (rmd 19) s m args below meth c H locs 0 0 (MQ below (QR ω (some (.int rr)) μo) args s 0 0 (wA ω)) (F0 m 45 ls []) := by
  have hx := C.1
  have hb := C.2.1
  unfold fX5_search_s45 at h
  refine lv_iload hx hb dX5_search_45 (lv_at hl 4 rfl) ?_
  refine lv_bipush (v := 6) hx hb dX5_search_47 (by decide) ?_
  refine lv_icmp_ge (tgt := 66) hx hb dX5_search_49 (by decide) (fun hc => ?_) (fun hc => ?_)
  · have h := ite_t hc h
    exact hK _ H locs ls hH hS (lv_sub hl [0, 1, 2, 3] rfl) h
  · have h := ite_f hc h
    refine lv_aload_n hx hb dX5_search_52 rfl (lv_at hl 0 rfl) ?_
    refine g_430 (i := 182) C hH (jC_180 hW) rfl dX5_search_53 ?_
    refine lv_iload hx hb dX5_search_56 (lv_at hl 4 rfl) ?_
    refine lv_iconst (v := 0) hx hb dX5_search_58 (by decide) ?_
    obtain ⟨b3, h⟩ := gd_e h
    obtain ⟨μ4, e5, h⟩ := bd_e h
    refine h_iast C hH hS (jC_182 hW).1 (jC_182 hW).2.1 b3 dX5_search_59 (fun H locs hH hS => ?_)
    have hH := Hd.to e5 hH
    refine lv_iinc (v := x4 + 1) (lv' := [(4, .int (x4 + 1)), (0, .ref (wB ω + 180)), (1, .ref (wB ω + q1)), (2, .ref (wB ω + q2)), (3, .int x3)]) hx hb dX5_search_60 hl (k := 4) rfl rfl (by decide) rfl (fun ls hl => ?_)
    refine lv_goto (tgt := 45) hx hb dX5_search_63 (by decide) ?_
    exact hrec _ _ H locs ls hH hS (lv_sub hl [1, 2, 3, 4, 0] rfl) h
theorem wX5_search_l45 {q1 : Nat} {q2 : Nat} (hW : FWC ω) (hq1 : IsS ω q1) (hq2 : IsQ ω q2) (C : Cx ω p s m args c cX5_search 5 RX5) (hr : meth.sig.returnType = some .int) (hk : meth.locks = false) {rr : Int32} {μo : Mem} {x3 : Int32} {K : Mem → Option (Int32 × Mem)} (hK : ∀ (ν : Mem) (H : Heap) (locs : List Loc) (ls : Array Slot), Hd ω ν H → FS ω s H locs → lv_has ls 5 [(0, .ref (wB ω + 180)), (1, .ref (wB ω + q1)), (2, .ref (wB ω + q2)), (3, .int x3)] → K ν = some (rr, μo) → W p l e (rmd 19) s m args below meth c H locs 0 0 (MQ below (QR ω (some (.int rr)) μo) args s 0 0 (wA ω)) (F0 m 66 ls [])) : ∀ (n : Nat) (x4 : Int32) (μ : Mem) (H : Heap) (locs : List Loc) (ls : Array Slot), Hd ω μ H → FS ω s H locs → lv_has ls 5 [(0, .ref (wB ω + 180)), (1, .ref (wB ω + q1)), (2, .ref (wB ω + q2)), (3, .int x3), (4, .int x4)] → fX5_search_l45 K q1 q2 n x4 μ = some (rr, μo) → W p l e (rmd 19) s m args below meth c H locs 0 0 (MQ below (QR ω (some (.int rr)) μo) args s 0 0 (wA ω)) (F0 m 45 ls []) := by
  intro n
  induction n with
  | zero => intro x4 μ H locs ls hH hS hl h; cases h
  | succ n ih => intro x4 μ H locs ls hH hS hl h; exact wX5_search_s45 hW hq1 hq2 C hr hk ih hK hH hS hl h
set_option maxHeartbeats 4000000 in
set_option maxRecDepth 100000 in
theorem wX5_search_s34 {q1 : Nat} {q2 : Nat} (hW : FWC ω) (hq1 : IsS ω q1) (hq2 : IsQ ω q2) (C : Cx ω p s m args c cX5_search 5 RX5) (hr : meth.sig.returnType = some .int) (hk : meth.locks = false) {rr : Int32} {μo : Mem} {x3 : Int32} {rec : Int32 → Mem → Option (Int32 × Mem)} (hrec : ∀ (z3 : Int32) (ν : Mem) (H : Heap) (locs : List Loc) (ls : Array Slot), Hd ω ν H → FS ω s H locs → lv_has ls 5 [(0, .ref (wB ω + 180)), (1, .ref (wB ω + q1)), (2, .ref (wB ω + q2)), (3, .int z3)] → rec z3 ν = some (rr, μo) → W p l e (rmd 19) s m args below meth c H locs 0 0 (MQ below (QR ω (some (.int rr)) μo) args s 0 0 (wA ω)) (F0 m 34 ls [])) {μ : Mem} {H : Heap} {locs : List Loc} {ls : Array Slot} (hH : Hd ω μ H) (hS : FS ω s H locs) (hl : lv_has ls 5 [(0, .ref (wB ω + 180)), (1, .ref (wB ω + q1)), (2, .ref (wB ω + q2)), (3, .int x3)]) (h : fX5_search_s34 rec q1 q2 x3 μ = some (rr, μo)) : W p l e (rmd 19) s m args below meth c H locs 0 0 (MQ below (QR ω (some (.int rr)) μo) args s 0 0 (wA ω)) (F0 m 34 ls []) := by
  have hx := C.1
  have hb := C.2.1
  unfold fX5_search_s34 at h
  refine lv_iload_n hx hb dX5_search_34 rfl (lv_at hl 3 rfl) ?_
  refine lv_aload_n hx hb dX5_search_35 rfl (lv_at hl 2 rfl) ?_
  refine g_260 C hH hq2.1 dX5_search_36 ?_
  refine lv_icmp_gt (tgt := 86) hx hb dX5_search_39 (by decide) (fun hc => ?_) (fun hc => ?_)
  · have h := ite_t hc h
    refine lv_bipush (v := (-2)) hx hb dX5_search_86 (by decide) ?_
    exact h_iret C hr hk hH hS rfl (by cases h; rfl) dX5_search_88
  · have h := ite_f hc h
    refine lv_iconst (v := 0) hx hb dX5_search_42 (by decide) ?_
    refine lv_istore (lv' := [(4, .int 0), (0, .ref (wB ω + 180)), (1, .ref (wB ω + q1)), (2, .ref (wB ω + q2)), (3, .int x3)]) hx hb dX5_search_43 hl (by decide) rfl (fun ls hl => ?_)
    refine wX5_search_l45 hW hq1 hq2 C hr hk (fun μ6 H locs ls hH hS hl h => ?_) FU _ _ H locs ls hH hS (lv_sub hl [1, 2, 3, 4, 0] rfl) h
    refine lv_aload_n hx hb dX5_search_66 rfl (lv_at hl 0 rfl) ?_
    refine lv_aload_n hx hb dX5_search_67 rfl (lv_at hl 1 rfl) ?_
    refine lv_aload_n hx hb dX5_search_68 rfl (lv_at hl 2 rfl) ?_
    refine lv_iconst (v := 0) hx hb dX5_search_69 (by decide) ?_
    refine lv_iconst (v := 0) hx hb dX5_search_70 (by decide) ?_
    refine lv_iload_n hx hb dX5_search_71 rfl (lv_at hl 3 rfl) ?_
    obtain ⟨r9, μ8, e7, h⟩ := b2_e h
    refine cVi (as := [.ref (wB ω + q1), .ref (wB ω + q2), .int 0, .int 0, .int x3]) (rest := []) (c_X5_coverFrom_n hW 8 _ _ _ _ _ _ _ _ hq1 hq2 e7) C hl.1 hH hS rfl (jC_180 hW) rfl wd_27 wd_1092 mw_X5_coverFrom wd_1090 rfl (rm_ok (by decide) (by decide)) (Nat.le_of_ble_eq_true rfl) ⟨Nat.zero_le _, Nat.zero_le _⟩ (by decide) dX5_search_72 (fun H locs hH hS => ?_)
    refine lv_if_eq (tgt := 80) hx hb dX5_search_75 (by decide) (fun hc => ?_) (fun hc => ?_)
    · have h := ite_t hc h
      refine lv_iinc (v := x3 + 1) (lv' := [(3, .int (x3 + 1)), (0, .ref (wB ω + 180)), (1, .ref (wB ω + q1)), (2, .ref (wB ω + q2))]) hx hb dX5_search_80 hl (k := 3) rfl rfl (by decide) rfl (fun ls hl => ?_)
      refine lv_goto (tgt := 34) hx hb dX5_search_83 (by decide) ?_
      exact hrec _ _ H locs ls hH hS (lv_sub hl [1, 2, 3, 0] rfl) h
    · have h := ite_f hc h
      refine lv_iload_n hx hb dX5_search_78 rfl (lv_at hl 3 rfl) ?_
      exact h_iret C hr hk hH hS rfl (by cases h; rfl) dX5_search_79
theorem wX5_search_l34 {q1 : Nat} {q2 : Nat} (hW : FWC ω) (hq1 : IsS ω q1) (hq2 : IsQ ω q2) (C : Cx ω p s m args c cX5_search 5 RX5) (hr : meth.sig.returnType = some .int) (hk : meth.locks = false) {rr : Int32} {μo : Mem} : ∀ (n : Nat) (x3 : Int32) (μ : Mem) (H : Heap) (locs : List Loc) (ls : Array Slot), Hd ω μ H → FS ω s H locs → lv_has ls 5 [(0, .ref (wB ω + 180)), (1, .ref (wB ω + q1)), (2, .ref (wB ω + q2)), (3, .int x3)] → fX5_search_l34 q1 q2 n x3 μ = some (rr, μo) → W p l e (rmd 19) s m args below meth c H locs 0 0 (MQ below (QR ω (some (.int rr)) μo) args s 0 0 (wA ω)) (F0 m 34 ls []) := by
  intro n
  induction n with
  | zero => intro x3 μ H locs ls hH hS hl h; cases h
  | succ n ih => intro x3 μ H locs ls hH hS hl h; exact wX5_search_s34 hW hq1 hq2 C hr hk ih hH hS hl h
set_option maxHeartbeats 4000000 in
set_option maxRecDepth 100000 in
theorem wX5_search_e {q1 : Nat} {q2 : Nat} (hW : FWC ω) (hq1 : IsS ω q1) (hq2 : IsQ ω q2) (C : Cx ω p s m args c cX5_search 5 RX5) (hr : meth.sig.returnType = some .int) (hk : meth.locks = false) {rr : Int32} {μo : Mem} {μ : Mem} {H : Heap} {locs : List Loc} {ls : Array Slot} (hH : Hd ω μ H) (hS : FS ω s H locs) (hl : lv_has ls 5 [(0, .ref (wB ω + 180)), (1, .ref (wB ω + q1)), (2, .ref (wB ω + q2))]) (h : fX5_search q1 q2 μ = some (rr, μo)) : W p l e (rmd 19) s m args below meth c H locs 0 0 (MQ below (QR ω (some (.int rr)) μo) args s 0 0 (wA ω)) (F0 m 0 ls []) := by
  have hx := C.1
  have hb := C.2.1
  unfold fX5_search at h
  refine lv_iconst (v := 0) hx hb dX5_search_0 (by decide) ?_
  refine lv_istore_n (lv' := [(3, .int 0), (0, .ref (wB ω + 180)), (1, .ref (wB ω + q1)), (2, .ref (wB ω + q2))]) hx hb dX5_search_1 rfl hl (by decide) rfl (fun ls hl => ?_)
  refine wX5_search_l2 hW hq1 hq2 C hr hk (fun H locs ls hH hS hl h => ?_) FU _ H locs ls hH hS (lv_sub hl [1, 2, 3, 0] rfl) h
  refine lv_iconst (v := 0) hx hb dX5_search_32 (by decide) ?_
  refine lv_istore_n (lv' := [(3, .int 0), (0, .ref (wB ω + 180)), (1, .ref (wB ω + q1)), (2, .ref (wB ω + q2))]) hx hb dX5_search_33 rfl hl (by decide) rfl (fun ls hl => ?_)
  exact wX5_search_l34 hW hq1 hq2 C hr hk FU _ _ H locs ls hH hS (lv_sub hl [1, 2, 3, 0] rfl) h
theorem c_X5_search {l : Launch} {ω : WW} {q1 : Nat} {q2 : Nat} (hW : FWC ω) (hq1 : IsS ω q1) (hq2 : IsQ ω q2) {μ : Mem} {rr : Int32} {μo : Mem} (h : fX5_search q1 q2 μ = some (rr, μo)) : Con l yX5_search cX5_search 5 (some .int) 19 ω [.ref (wB ω + 180), .ref (wB ω + q1), .ref (wB ω + q2)] μ (some (.int rr)) μo :=
  con_of (by decide) (Nat.le_of_ble_eq_true rfl) (fun p e s m args below meth c ls C hr hk hl hH hS => wX5_search_e hW hq1 hq2 C hr hk hH hS (lv_sub hl [0, 1, 2] rfl) h)
set_option maxHeartbeats 4000000 in
set_option maxRecDepth 100000 in
theorem wX11_roofs_b15 (hW : FWC ω) (C : Cx ω p s m args c cX11_roofs 3 RX11) (hr : meth.sig.returnType = some .int) (hk : meth.locks = false) {rr : Int32} {μo : Mem} {x1 : Int32} {μ : Mem} {H : Heap} {locs : List Loc} {ls : Array Slot} (hH : Hd ω μ H) (hS : FS ω s H locs) (hl : lv_has ls 3 [(0, .ref (wB ω + 1)), (1, .int x1)]) (h : fX11_roofs_b15 x1 μ = some (rr, μo)) : W p l e (rmd 20) s m args below meth c H locs 0 0 (MQ below (QR ω (some (.int rr)) μo) args s 0 0 (wA ω)) (F0 m 15 ls []) := by
  have hx := C.1
  have hb := C.2.1
  unfold fX11_roofs_b15 at h
  refine lv_aload_n hx hb dX11_roofs_15 rfl (lv_at hl 0 rfl) ?_
  refine g_485 (i := 180) C hH (jC_1 hW) rfl dX11_roofs_16 ?_
  refine lv_aload_n hx hb dX11_roofs_19 rfl (lv_at hl 0 rfl) ?_
  refine g_477 (i := 24) C hH (jC_1 hW) rfl dX11_roofs_20 ?_
  refine lv_aload_n hx hb dX11_roofs_23 rfl (lv_at hl 0 rfl) ?_
  refine g_476 (i := 17) C hH (jC_1 hW) rfl dX11_roofs_24 ?_
  obtain ⟨r3, μ2, e1, h⟩ := b2_e h
  refine cVi (as := [.ref (wB ω + 24), .ref (wB ω + 17)]) (rest := []) (c_X5_search hW (sC_24 hW) (qC_17 hW) e1) C hl.1 hH hS rfl (jC_180 hW) rfl wd_1087 wd_1086 mw_X5_search wd_1085 rfl (rm_ok (by decide) (by decide)) (Nat.le_of_ble_eq_true rfl) ⟨Nat.zero_le _, Nat.zero_le _⟩ (by decide) dX11_roofs_27 (fun H locs hH hS => ?_)
  refine lv_istore_n (lv' := [(2, .int r3), (0, .ref (wB ω + 1)), (1, .int x1)]) hx hb dX11_roofs_30 rfl hl (by decide) rfl (fun ls hl => ?_)
  refine lv_iload_n hx hb dX11_roofs_31 rfl (lv_at hl 0 rfl) ?_
  refine lv_bipush (v := (-2)) hx hb dX11_roofs_32 (by decide) ?_
  refine lv_icmp_eq (tgt := 42) hx hb dX11_roofs_34 (by decide) (fun hc => ?_) (fun hc => ?_)
  · have h := ite_t hc h
    refine lv_iload_n hx hb dX11_roofs_42 rfl (lv_at hl 0 rfl) ?_
    exact h_iret C hr hk hH hS rfl (by cases h; rfl) dX11_roofs_43
  · have h := ite_f hc h
    refine lv_iload_n hx hb dX11_roofs_37 rfl (lv_at hl 2 rfl) ?_
    refine lv_iconst (v := (-1)) hx hb dX11_roofs_38 (by decide) ?_
    refine lv_icmp_ne (tgt := 44) hx hb dX11_roofs_39 (by decide) (fun hc => ?_) (fun hc => ?_)
    · have h := ite_f hc h
      refine lv_aload_n hx hb dX11_roofs_44 rfl (lv_at hl 1 rfl) ?_
      refine g_485 (i := 180) C hH (jC_1 hW) rfl dX11_roofs_45 ?_
      refine g_429 (i := 181) C hH (jC_180 hW) rfl dX11_roofs_48 ?_
      refine lv_iload_n hx hb dX11_roofs_51 rfl (lv_at hl 2 rfl) ?_
      obtain ⟨b4, h⟩ := gd_e h
      refine h_iald C hH (jC_181 hW).1 (jC_181 hW).2.1 b4 dX11_roofs_52 ?_
      exact h_iret C hr hk hH hS rfl (by cases h; rfl) dX11_roofs_53
    · have h := ite_t hc h
      refine lv_iload_n hx hb dX11_roofs_42 rfl (lv_at hl 0 rfl) ?_
      exact h_iret C hr hk hH hS rfl (by cases h; rfl) dX11_roofs_43
set_option maxHeartbeats 4000000 in
set_option maxRecDepth 100000 in
theorem wX11_roofs_e (hW : FWC ω) (C : Cx ω p s m args c cX11_roofs 3 RX11) (hr : meth.sig.returnType = some .int) (hk : meth.locks = false) {rr : Int32} {μo : Mem} {x1 : Int32} {μ : Mem} {H : Heap} {locs : List Loc} {ls : Array Slot} (hH : Hd ω μ H) (hS : FS ω s H locs) (hl : lv_has ls 3 [(0, .ref (wB ω + 1)), (1, .int x1)]) (h : fX11_roofs x1 μ = some (rr, μo)) : W p l e (rmd 20) s m args below meth c H locs 0 0 (MQ below (QR ω (some (.int rr)) μo) args s 0 0 (wA ω)) (F0 m 0 ls []) := by
  have hx := C.1
  have hb := C.2.1
  unfold fX11_roofs at h
  refine lv_iload_n hx hb dX11_roofs_0 rfl (lv_at hl 1 rfl) ?_
  refine lv_iconst (v := (-1)) hx hb dX11_roofs_1 (by decide) ?_
  refine lv_icmp_eq (tgt := 15) hx hb dX11_roofs_2 (by decide) (fun hc => ?_) (fun hc => ?_)
  · have h := ite_t hc h
    exact wX11_roofs_b15 hW C hr hk hH hS hl h
  · have h := ite_f hc h
    refine lv_aload_n hx hb dX11_roofs_5 rfl (lv_at hl 0 rfl) ?_
    refine lv_iload_n hx hb dX11_roofs_6 rfl (lv_at hl 1 rfl) ?_
    obtain ⟨r6, e5, h⟩ := b1_e h
    refine cVi (as := [.int x1]) (rest := []) (c_X11_isHouse hW e5) C hl.1 hH hS rfl (jC_1 hW) rfl wd_15 wd_741 mw_X11_isHouse wd_739 rfl (rm_ok (by decide) (by decide)) (Nat.le_of_ble_eq_true rfl) ⟨Nat.zero_le _, Nat.zero_le _⟩ (by decide) dX11_roofs_7 (fun H locs hH hS => ?_)
    refine lv_if_ne (tgt := 15) hx hb dX11_roofs_10 (by decide) (fun hc => ?_) (fun hc => ?_)
    · have h := ite_f hc h
      exact wX11_roofs_b15 hW C hr hk hH hS hl h
    · have h := ite_t hc h
      refine lv_iconst (v := (-1)) hx hb dX11_roofs_13 (by decide) ?_
      exact h_iret C hr hk hH hS rfl (by cases h; rfl) dX11_roofs_14
theorem c_X11_roofs {l : Launch} {ω : WW} {x1 : Int32} (hW : FWC ω) {μ : Mem} {rr : Int32} {μo : Mem} (h : fX11_roofs x1 μ = some (rr, μo)) : Con l yX11_roofs cX11_roofs 3 (some .int) 20 ω [.ref (wB ω + 1), .int x1] μ (some (.int rr)) μo :=
  con_of (by decide) (Nat.le_of_ble_eq_true rfl) (fun p e s m args below meth c ls C hr hk hl hH hS => wX11_roofs_e hW C hr hk hH hS (lv_sub hl [0, 1] rfl) h)
set_option maxHeartbeats 4000000 in
set_option maxRecDepth 100000 in
theorem wX11_round_e (hW : FWC ω) (C : Cx ω p s m args c cX11_round 2 RX11) (hr : meth.sig.returnType = some .int) (hk : meth.locks = false) {rr : Int32} {μo : Mem} {x1 : Int32} {μ : Mem} {H : Heap} {locs : List Loc} {ls : Array Slot} (hH : Hd ω μ H) (hS : FS ω s H locs) (hl : lv_has ls 2 [(0, .ref (wB ω + 1)), (1, .int x1)]) (h : fX11_round x1 μ = some (rr, μo)) : W p l e (rmd 20) s m args below meth c H locs 0 0 (MQ below (QR ω (some (.int rr)) μo) args s 0 0 (wA ω)) (F0 m 0 ls []) := by
  have hx := C.1
  have hb := C.2.1
  unfold fX11_round at h
  refine lv_aload_n hx hb dX11_round_0 rfl (lv_at hl 0 rfl) ?_
  refine lv_iload_n hx hb dX11_round_1 rfl (lv_at hl 1 rfl) ?_
  obtain ⟨r2, e1, h⟩ := b1_e h
  refine cVi (as := [.int x1]) (rest := []) (c_X11_isHouse hW e1) C hl.1 hH hS rfl (jC_1 hW) rfl wd_15 wd_741 mw_X11_isHouse wd_739 rfl (rm_ok (by decide) (by decide)) (Nat.le_of_ble_eq_true rfl) ⟨Nat.zero_le _, Nat.zero_le _⟩ (by decide) dX11_round_2 (fun H locs hH hS => ?_)
  refine lv_if_ne (tgt := 10) hx hb dX11_round_5 (by decide) (fun hc => ?_) (fun hc => ?_)
  · have h := ite_f hc h
    refine lv_aload_n hx hb dX11_round_10 rfl (lv_at hl 0 rfl) ?_
    refine g_484 (i := 177) C hH (jC_1 hW) rfl dX11_round_11 ?_
    refine lv_aload_n hx hb dX11_round_14 rfl (lv_at hl 0 rfl) ?_
    refine g_476 (i := 17) C hH (jC_1 hW) rfl dX11_round_15 ?_
    refine lv_iload_n hx hb dX11_round_18 rfl (lv_at hl 1 rfl) ?_
    obtain ⟨μ4, e3, h⟩ := b1_e h
    refine cVv (as := [.ref (wB ω + 17), .int x1]) (rest := []) (c_X10_search hW (qC_17 hW) e3) C hl.1 hH hS rfl (jC_177 hW) rfl wd_1042 wd_1041 mw_X10_search wd_1040 rfl (rm_ok (by decide) (by decide)) (Nat.le_of_ble_eq_true rfl) ⟨Nat.zero_le _, Nat.zero_le _⟩ (by decide) dX11_round_19 (fun H locs hH hS => ?_)
    refine lv_aload_n hx hb dX11_round_22 rfl (lv_at hl 0 rfl) ?_
    refine g_484 (i := 177) C hH (jC_1 hW) rfl dX11_round_23 ?_
    refine g_414 C hH (jC_177 hW) dX11_round_26 ?_
    exact h_iret C hr hk hH hS rfl (by cases h; rfl) dX11_round_29
  · have h := ite_t hc h
    refine lv_iconst (v := (-1)) hx hb dX11_round_8 (by decide) ?_
    exact h_iret C hr hk hH hS rfl (by cases h; rfl) dX11_round_9
theorem c_X11_round {l : Launch} {ω : WW} {x1 : Int32} (hW : FWC ω) {μ : Mem} {rr : Int32} {μo : Mem} (h : fX11_round x1 μ = some (rr, μo)) : Con l yX11_round cX11_round 2 (some .int) 20 ω [.ref (wB ω + 1), .int x1] μ (some (.int rr)) μo :=
  con_of (by decide) (Nat.le_of_ble_eq_true rfl) (fun p e s m args below meth c ls C hr hk hl hH hS => wX11_round_e hW C hr hk hH hS (lv_sub hl [0, 1] rfl) h)
set_option maxHeartbeats 4000000 in
set_option maxRecDepth 100000 in
theorem wX11_saves_e (hW : FWC ω) (C : Cx ω p s m args c cX11_saves 2 RX11) (hr : meth.sig.returnType = some .int) (hk : meth.locks = false) {rr : Int32} {μo : Mem} {x1 : Int32} {μ : Mem} {H : Heap} {locs : List Loc} {ls : Array Slot} (hH : Hd ω μ H) (hS : FS ω s H locs) (hl : lv_has ls 2 [(0, .ref (wB ω + 1)), (1, .int x1)]) (h : fX11_saves x1 μ = some (rr, μo)) : W p l e (rmd 7) s m args below meth c H locs 0 0 (MQ below (QR ω (some (.int rr)) μo) args s 0 0 (wA ω)) (F0 m 0 ls []) := by
  have hx := C.1
  have hb := C.2.1
  unfold fX11_saves at h
  refine lv_aload_n hx hb dX11_saves_0 rfl (lv_at hl 0 rfl) ?_
  refine lv_iload_n hx hb dX11_saves_1 rfl (lv_at hl 1 rfl) ?_
  obtain ⟨r2, e1, h⟩ := b1_e h
  refine cVi (as := [.int x1]) (rest := []) (c_X11_isHouse hW e1) C hl.1 hH hS rfl (jC_1 hW) rfl wd_15 wd_741 mw_X11_isHouse wd_739 rfl (rm_ok (by decide) (by decide)) (Nat.le_of_ble_eq_true rfl) ⟨Nat.zero_le _, Nat.zero_le _⟩ (by decide) dX11_saves_2 (fun H locs hH hS => ?_)
  refine lv_if_eq (tgt := 16) hx hb dX11_saves_5 (by decide) (fun hc => ?_) (fun hc => ?_)
  · have h := ite_t hc h
    refine lv_ldcw (v := (-100000)) hx hb C.2.2.2.1 (C.2.2.2.2.1 _ (tg wd_999 rfl)) dX11_saves_16 ?_
    exact h_iret C hr hk hH hS rfl (by cases h; rfl) dX11_saves_19
  · have h := ite_f hc h
    refine lv_aload_n hx hb dX11_saves_8 rfl (lv_at hl 0 rfl) ?_
    refine lv_iload_n hx hb dX11_saves_9 rfl (lv_at hl 1 rfl) ?_
    obtain ⟨r5, μ4, e3, h⟩ := b2_e h
    refine cVi (as := [.int x1]) (rest := []) (c_X11_savedByOne hW e3) C hl.1 hH hS rfl (jC_1 hW) rfl wd_22 wd_997 mw_X11_savedByOne wd_995 rfl (rm_ok (by decide) (by decide)) (Nat.le_of_ble_eq_true rfl) ⟨Nat.zero_le _, Nat.zero_le _⟩ (by decide) dX11_saves_10 (fun H locs hH hS => ?_)
    refine lv_goto (tgt := 19) hx hb dX11_saves_13 (by decide) ?_
    exact h_iret C hr hk hH hS rfl (by cases h; rfl) dX11_saves_19
theorem c_X11_saves {l : Launch} {ω : WW} {x1 : Int32} (hW : FWC ω) {μ : Mem} {rr : Int32} {μo : Mem} (h : fX11_saves x1 μ = some (rr, μo)) : Con l yX11_saves cX11_saves 2 (some .int) 7 ω [.ref (wB ω + 1), .int x1] μ (some (.int rr)) μo :=
  con_of (by decide) (Nat.le_of_ble_eq_true rfl) (fun p e s m args below meth c ls C hr hk hl hH hS => wX11_saves_e hW C hr hk hH hS (lv_sub hl [0, 1] rfl) h)
set_option maxHeartbeats 4000000 in
set_option maxRecDepth 100000 in
theorem wX6_givenTo_e {q : Nat} {hn : Nat} (hq : IsH ω q hn) (C : Cx ω p s m args c cX6_givenTo 2 RX6) (hr : meth.sig.returnType = some .int) (hk : meth.locks = false) {rr : Int32} {μ : Mem} {x1 : Int32} {H : Heap} {locs : List Loc} {ls : Array Slot} (hH : Hd ω μ H) (hS : FS ω s H locs) (hl : lv_has ls 2 [(0, .ref (wB ω + q)), (1, .int x1)]) (h : fX6_givenTo q hn x1 μ = some rr) : W p l e (rmd 1) s m args below meth c H locs 0 0 (MQ below (QR ω (some (.int rr)) μ) args s 0 0 (wA ω)) (F0 m 0 ls []) := by
  have hx := C.1
  have hb := C.2.1
  unfold fX6_givenTo at h
  refine lv_iload_n hx hb dX6_givenTo_0 rfl (lv_at hl 1 rfl) ?_
  refine lv_if_lt (tgt := 19) hx hb dX6_givenTo_1 (by decide) (fun hc => ?_) (fun hc => ?_)
  · have h := ite_t hc h
    refine lv_iconst (v := 0) hx hb dX6_givenTo_19 (by decide) ?_
    exact h_iret C hr hk hH hS rfl (by cases h; rfl) dX6_givenTo_20
  · have h := ite_f hc h
    refine lv_iload_n hx hb dX6_givenTo_4 rfl (lv_at hl 1 rfl) ?_
    refine lv_bipush (v := 6) hx hb dX6_givenTo_5 (by decide) ?_
    refine lv_icmp_ge (tgt := 19) hx hb dX6_givenTo_7 (by decide) (fun hc => ?_) (fun hc => ?_)
    · have h := ite_t hc h
      refine lv_iconst (v := 0) hx hb dX6_givenTo_19 (by decide) ?_
      exact h_iret C hr hk hH hS rfl (by cases h; rfl) dX6_givenTo_20
    · have h := ite_f hc h
      refine lv_aload_n hx hb dX6_givenTo_10 rfl (lv_at hl 0 rfl) ?_
      refine g_389 (i := q + 18) C hH hq.1 rfl dX6_givenTo_11 ?_
      refine lv_iload_n hx hb dX6_givenTo_14 rfl (lv_at hl 1 rfl) ?_
      obtain ⟨b1, h⟩ := gd_e h
      refine h_iald C hH hq.2.2.2.2.2.2.1 hq.2.2.2.2.2.2.2.1 b1 dX6_givenTo_15 ?_
      refine lv_goto (tgt := 20) hx hb dX6_givenTo_16 (by decide) ?_
      exact h_iret C hr hk hH hS rfl (by cases h; rfl) dX6_givenTo_20
theorem c_X6_givenTo {l : Launch} {ω : WW} {q : Nat} {hn : Nat} {x1 : Int32} (hq : IsH ω q hn) {μ : Mem} {rr : Int32} (h : fX6_givenTo q hn x1 μ = some rr) : Con l yX6_givenTo cX6_givenTo 2 (some .int) 1 ω [.ref (wB ω + q), .int x1] μ (some (.int rr)) μ :=
  con_of (by decide) (Nat.le_of_ble_eq_true rfl) (fun p e s m args below meth c ls C hr hk hl hH hS => wX6_givenTo_e hq C hr hk hH hS (lv_sub hl [0, 1] rfl) h)
set_option maxHeartbeats 4000000 in
set_option maxRecDepth 100000 in
theorem wX11_share_b25 (hW : FWC ω) (C : Cx ω p s m args c cX11_share 3 RX11) (hr : meth.sig.returnType = some .int) (hk : meth.locks = false) {rr : Int32} {μo : Mem} {x1 : Int32} {x2 : Int32} {μ : Mem} {H : Heap} {locs : List Loc} {ls : Array Slot} (hH : Hd ω μ H) (hS : FS ω s H locs) (hl : lv_has ls 3 [(0, .ref (wB ω + 1)), (1, .int x1), (2, .int x2)]) (h : fX11_share_b25 x1 x2 μ = some (rr, μo)) : W p l e (rmd 6) s m args below meth c H locs 0 0 (MQ below (QR ω (some (.int rr)) μo) args s 0 0 (wA ω)) (F0 m 25 ls []) := by
  have hx := C.1
  have hb := C.2.1
  unfold fX11_share_b25 at h
  refine lv_aload_n hx hb dX11_share_25 rfl (lv_at hl 0 rfl) ?_
  refine g_481 (i := 120) C hH (jC_1 hW) rfl dX11_share_26 ?_
  refine lv_aload_n hx hb dX11_share_29 rfl (lv_at hl 0 rfl) ?_
  refine g_476 (i := 17) C hH (jC_1 hW) rfl dX11_share_30 ?_
  refine lv_aload_n hx hb dX11_share_33 rfl (lv_at hl 0 rfl) ?_
  refine g_477 (i := 24) C hH (jC_1 hW) rfl dX11_share_34 ?_
  refine lv_iload_n hx hb dX11_share_37 rfl (lv_at hl 1 rfl) ?_
  obtain ⟨μ2, e1, h⟩ := b1_e h
  refine cVv (as := [.ref (wB ω + 17), .ref (wB ω + 24), .int x1]) (rest := []) (c_X6_weigh (hC_120 hW) (qC_17 hW) (sC_24 hW) e1) C hl.1 hH hS rfl (jC_120 hW) rfl wd_926 wd_925 mw_X6_weigh wd_924 rfl (rm_ok (by decide) (by decide)) (Nat.le_of_ble_eq_true rfl) ⟨Nat.zero_le _, Nat.zero_le _⟩ (by decide) dX11_share_38 (fun H locs hH hS => ?_)
  refine lv_iload_n hx hb dX11_share_41 rfl (lv_at hl 2 rfl) ?_
  refine lv_iconst (v := (-1)) hx hb dX11_share_42 (by decide) ?_
  refine lv_icmp_ne (tgt := 55) hx hb dX11_share_43 (by decide) (fun hc => ?_) (fun hc => ?_)
  · have h := ite_f hc h
    refine lv_aload_n hx hb dX11_share_55 rfl (lv_at hl 0 rfl) ?_
    refine g_481 (i := 120) C hH (jC_1 hW) rfl dX11_share_56 ?_
    refine lv_iload_n hx hb dX11_share_59 rfl (lv_at hl 1 rfl) ?_
    obtain ⟨μ4, e3, h⟩ := b1_e h
    refine cVv (as := [.int x1]) (rest := []) (c_X6_shareOut (hC_120 hW) e3) C hl.1 hH hS rfl (jC_120 hW) rfl wd_942 wd_941 mw_X6_shareOut wd_940 rfl (rm_ok (by decide) (by decide)) (Nat.le_of_ble_eq_true rfl) ⟨Nat.zero_le _, Nat.zero_le _⟩ (by decide) dX11_share_60 (fun H locs hH hS => ?_)
    refine lv_aload_n hx hb dX11_share_63 rfl (lv_at hl 0 rfl) ?_
    refine g_481 (i := 120) C hH (jC_1 hW) rfl dX11_share_64 ?_
    refine lv_iload_n hx hb dX11_share_67 rfl (lv_at hl 2 rfl) ?_
    obtain ⟨r6, e5, h⟩ := b1_e h
    refine cVi (as := [.int x2]) (rest := []) (c_X6_givenTo (hC_120 hW) e5) C hl.1 hH hS rfl (jC_120 hW) rfl wd_946 wd_945 mw_X6_givenTo wd_944 rfl (rm_ok (by decide) (by decide)) (Nat.le_of_ble_eq_true rfl) ⟨Nat.zero_le _, Nat.zero_le _⟩ (by decide) dX11_share_68 (fun H locs hH hS => ?_)
    exact h_iret C hr hk hH hS rfl (by cases h; rfl) dX11_share_71
  · have h := ite_t hc h
    refine lv_aload_n hx hb dX11_share_46 rfl (lv_at hl 0 rfl) ?_
    refine g_481 (i := 120) C hH (jC_1 hW) rfl dX11_share_47 ?_
    refine lv_iload_n hx hb dX11_share_50 rfl (lv_at hl 1 rfl) ?_
    obtain ⟨r8, e7, h⟩ := b1_e h
    refine cVi (as := [.int x1]) (rest := []) (c_X6_leastLoss (hC_120 hW) e7) C hl.1 hH hS rfl (jC_120 hW) rfl wd_938 wd_937 mw_X6_leastLoss wd_936 rfl (rm_ok (by decide) (by decide)) (Nat.le_of_ble_eq_true rfl) ⟨Nat.zero_le _, Nat.zero_le _⟩ (by decide) dX11_share_51 (fun H locs hH hS => ?_)
    exact h_iret C hr hk hH hS rfl (by cases h; rfl) dX11_share_54
set_option maxHeartbeats 4000000 in
set_option maxRecDepth 100000 in
theorem wX11_share_e (hW : FWC ω) (C : Cx ω p s m args c cX11_share 3 RX11) (hr : meth.sig.returnType = some .int) (hk : meth.locks = false) {rr : Int32} {μo : Mem} {x1 : Int32} {x2 : Int32} {μ : Mem} {H : Heap} {locs : List Loc} {ls : Array Slot} (hH : Hd ω μ H) (hS : FS ω s H locs) (hl : lv_has ls 3 [(0, .ref (wB ω + 1)), (1, .int x1), (2, .int x2)]) (h : fX11_share x1 x2 μ = some (rr, μo)) : W p l e (rmd 6) s m args below meth c H locs 0 0 (MQ below (QR ω (some (.int rr)) μo) args s 0 0 (wA ω)) (F0 m 0 ls []) := by
  have hx := C.1
  have hb := C.2.1
  unfold fX11_share at h
  refine lv_iload_n hx hb dX11_share_0 rfl (lv_at hl 1 rfl) ?_
  refine lv_if_lt (tgt := 23) hx hb dX11_share_1 (by decide) (fun hc => ?_) (fun hc => ?_)
  · have h := ite_t hc h
    refine lv_iconst (v := (-1)) hx hb dX11_share_23 (by decide) ?_
    exact h_iret C hr hk hH hS rfl (by cases h; rfl) dX11_share_24
  · have h := ite_f hc h
    refine lv_iload_n hx hb dX11_share_4 rfl (lv_at hl 1 rfl) ?_
    refine lv_bipush (v := 30) hx hb dX11_share_5 (by decide) ?_
    refine lv_icmp_gt (tgt := 23) hx hb dX11_share_7 (by decide) (fun hc => ?_) (fun hc => ?_)
    · have h := ite_t hc h
      refine lv_iconst (v := (-1)) hx hb dX11_share_23 (by decide) ?_
      exact h_iret C hr hk hH hS rfl (by cases h; rfl) dX11_share_24
    · have h := ite_f hc h
      refine lv_iload_n hx hb dX11_share_10 rfl (lv_at hl 2 rfl) ?_
      refine lv_iconst (v := (-1)) hx hb dX11_share_11 (by decide) ?_
      refine lv_icmp_eq (tgt := 25) hx hb dX11_share_12 (by decide) (fun hc => ?_) (fun hc => ?_)
      · have h := ite_t hc h
        exact wX11_share_b25 hW C hr hk hH hS hl h
      · have h := ite_f hc h
        refine lv_aload_n hx hb dX11_share_15 rfl (lv_at hl 0 rfl) ?_
        refine lv_iload_n hx hb dX11_share_16 rfl (lv_at hl 2 rfl) ?_
        obtain ⟨r10, e9, h⟩ := b1_e h
        refine cVi (as := [.int x2]) (rest := []) (c_X11_isHouse hW e9) C hl.1 hH hS rfl (jC_1 hW) rfl wd_15 wd_741 mw_X11_isHouse wd_739 rfl (rm_ok (by decide) (by decide)) (Nat.le_of_ble_eq_true rfl) ⟨Nat.zero_le _, Nat.zero_le _⟩ (by decide) dX11_share_17 (fun H locs hH hS => ?_)
        refine lv_if_ne (tgt := 25) hx hb dX11_share_20 (by decide) (fun hc => ?_) (fun hc => ?_)
        · have h := ite_f hc h
          exact wX11_share_b25 hW C hr hk hH hS hl h
        · have h := ite_t hc h
          refine lv_iconst (v := (-1)) hx hb dX11_share_23 (by decide) ?_
          exact h_iret C hr hk hH hS rfl (by cases h; rfl) dX11_share_24
theorem c_X11_share {l : Launch} {ω : WW} {x1 : Int32} {x2 : Int32} (hW : FWC ω) {μ : Mem} {rr : Int32} {μo : Mem} (h : fX11_share x1 x2 μ = some (rr, μo)) : Con l yX11_share cX11_share 3 (some .int) 6 ω [.ref (wB ω + 1), .int x1, .int x2] μ (some (.int rr)) μo :=
  con_of (by decide) (Nat.le_of_ble_eq_true rfl) (fun p e s m args below meth c ls C hr hk hl hH hS => wX11_share_e hW C hr hk hH hS (lv_sub hl [0, 1, 2] rfl) h)
set_option maxHeartbeats 4000000 in
set_option maxRecDepth 100000 in
theorem wX11_summers_s18 (hW : FWC ω) (C : Cx ω p s m args c cX11_summers 4 RX11) (hr : meth.sig.returnType = some .int) (hk : meth.locks = false) {rr : Int32} {μ : Mem} {x1 : Int32} {x2 : Int32} {x3 : Int32} {rec : Int32 → Int32 → Option Int32} (hrec : ∀ (z2 : Int32) (z3 : Int32) (H : Heap) (locs : List Loc) (ls : Array Slot), Hd ω μ H → FS ω s H locs → lv_has ls 4 [(0, .ref (wB ω + 1)), (1, .int x1), (2, .int z2), (3, .int z3)] → rec z2 z3 = some rr → W p l e (rmd 2) s m args below meth c H locs 0 0 (MQ below (QR ω (some (.int rr)) μ) args s 0 0 (wA ω)) (F0 m 18 ls [])) {H : Heap} {locs : List Loc} {ls : Array Slot} (hH : Hd ω μ H) (hS : FS ω s H locs) (hl : lv_has ls 4 [(0, .ref (wB ω + 1)), (1, .int x1), (2, .int x2), (3, .int x3)]) (h : fX11_summers_s18 rec x1 x2 x3 μ = some rr) : W p l e (rmd 2) s m args below meth c H locs 0 0 (MQ below (QR ω (some (.int rr)) μ) args s 0 0 (wA ω)) (F0 m 18 ls []) := by
  have hx := C.1
  have hb := C.2.1
  unfold fX11_summers_s18 at h
  refine lv_iload_n hx hb dX11_summers_18 rfl (lv_at hl 3 rfl) ?_
  refine lv_aload_n hx hb dX11_summers_19 rfl (lv_at hl 0 rfl) ?_
  refine g_476 (i := 17) C hH (jC_1 hW) rfl dX11_summers_20 ?_
  refine g_265 C hH (jC_17 hW) dX11_summers_23 ?_
  refine lv_icmp_ge (tgt := 51) hx hb dX11_summers_26 (by decide) (fun hc => ?_) (fun hc => ?_)
  · have h := ite_t hc h
    refine lv_iload_n hx hb dX11_summers_51 rfl (lv_at hl 2 rfl) ?_
    exact h_iret C hr hk hH hS rfl (by cases h; rfl) dX11_summers_52
  · have h := ite_f hc h
    refine lv_aload_n hx hb dX11_summers_29 rfl (lv_at hl 0 rfl) ?_
    refine g_477 (i := 24) C hH (jC_1 hW) rfl dX11_summers_30 ?_
    refine lv_iload_n hx hb dX11_summers_33 rfl (lv_at hl 3 rfl) ?_
    refine lv_iconst (v := 3) hx hb dX11_summers_34 (by decide) ?_
    obtain ⟨r2, e1, h⟩ := b1_e h
    refine cVi (as := [.int x3, .int 3]) (rest := []) (c_X7_get (sC_24 hW) e1) C hl.1 hH hS rfl (jC_24 hW) rfl wd_745 wd_744 mw_X7_get wd_743 rfl (rm_ok (by decide) (by decide)) (Nat.le_of_ble_eq_true rfl) ⟨Nat.zero_le _, Nat.zero_le _⟩ (by decide) dX11_summers_35 (fun H locs hH hS => ?_)
    refine lv_iload_n hx hb dX11_summers_38 rfl (lv_at hl 1 rfl) ?_
    refine lv_icmp_lt (tgt := 45) hx hb dX11_summers_39 (by decide) (fun hc => ?_) (fun hc => ?_)
    · have h := ite_t hc h
      refine lv_iinc (v := x3 + 1) (lv' := [(3, .int (x3 + 1)), (0, .ref (wB ω + 1)), (1, .int x1), (2, .int x2)]) hx hb dX11_summers_45 hl (k := 3) rfl rfl (by decide) rfl (fun ls hl => ?_)
      refine lv_goto (tgt := 18) hx hb dX11_summers_48 (by decide) ?_
      exact hrec _ _ H locs ls hH hS (lv_sub hl [1, 2, 3, 0] rfl) h
    · have h := ite_f hc h
      refine lv_iinc (v := x2 + 1) (lv' := [(2, .int (x2 + 1)), (0, .ref (wB ω + 1)), (1, .int x1), (3, .int x3)]) hx hb dX11_summers_42 hl (k := 2) rfl rfl (by decide) rfl (fun ls hl => ?_)
      refine lv_iinc (v := x3 + 1) (lv' := [(3, .int (x3 + 1)), (2, .int (x2 + 1)), (0, .ref (wB ω + 1)), (1, .int x1)]) hx hb dX11_summers_45 hl (k := 3) rfl rfl (by decide) rfl (fun ls hl => ?_)
      refine lv_goto (tgt := 18) hx hb dX11_summers_48 (by decide) ?_
      exact hrec _ _ H locs ls hH hS (lv_sub hl [2, 3, 1, 0] rfl) h
theorem wX11_summers_l18 (hW : FWC ω) (C : Cx ω p s m args c cX11_summers 4 RX11) (hr : meth.sig.returnType = some .int) (hk : meth.locks = false) {rr : Int32} {μ : Mem} {x1 : Int32} : ∀ (n : Nat) (x2 : Int32) (x3 : Int32) (H : Heap) (locs : List Loc) (ls : Array Slot), Hd ω μ H → FS ω s H locs → lv_has ls 4 [(0, .ref (wB ω + 1)), (1, .int x1), (2, .int x2), (3, .int x3)] → fX11_summers_l18 x1 μ n x2 x3 = some rr → W p l e (rmd 2) s m args below meth c H locs 0 0 (MQ below (QR ω (some (.int rr)) μ) args s 0 0 (wA ω)) (F0 m 18 ls []) := by
  intro n
  induction n with
  | zero => intro x2 x3 H locs ls hH hS hl h; cases h
  | succ n ih => intro x2 x3 H locs ls hH hS hl h; exact wX11_summers_s18 hW C hr hk ih hH hS hl h
set_option maxHeartbeats 4000000 in
set_option maxRecDepth 100000 in
theorem wX11_summers_e (hW : FWC ω) (C : Cx ω p s m args c cX11_summers 4 RX11) (hr : meth.sig.returnType = some .int) (hk : meth.locks = false) {rr : Int32} {μ : Mem} {x1 : Int32} {H : Heap} {locs : List Loc} {ls : Array Slot} (hH : Hd ω μ H) (hS : FS ω s H locs) (hl : lv_has ls 4 [(0, .ref (wB ω + 1)), (1, .int x1)]) (h : fX11_summers x1 μ = some rr) : W p l e (rmd 2) s m args below meth c H locs 0 0 (MQ below (QR ω (some (.int rr)) μ) args s 0 0 (wA ω)) (F0 m 0 ls []) := by
  have hx := C.1
  have hb := C.2.1
  unfold fX11_summers at h
  refine lv_iload_n hx hb dX11_summers_0 rfl (lv_at hl 1 rfl) ?_
  refine lv_iconst (v := 1) hx hb dX11_summers_1 (by decide) ?_
  refine lv_icmp_lt (tgt := 12) hx hb dX11_summers_2 (by decide) (fun hc => ?_) (fun hc => ?_)
  · have h := ite_t hc h
    refine lv_iconst (v := (-1)) hx hb dX11_summers_12 (by decide) ?_
    exact h_iret C hr hk hH hS rfl (by cases h; rfl) dX11_summers_13
  · have h := ite_f hc h
    refine lv_iload_n hx hb dX11_summers_5 rfl (lv_at hl 1 rfl) ?_
    refine lv_sipush (v := 999) hx hb dX11_summers_6 (by decide) ?_
    refine lv_icmp_le (tgt := 14) hx hb dX11_summers_9 (by decide) (fun hc => ?_) (fun hc => ?_)
    · have h := ite_t hc h
      refine lv_iconst (v := 0) hx hb dX11_summers_14 (by decide) ?_
      refine lv_istore_n (lv' := [(2, .int 0), (0, .ref (wB ω + 1)), (1, .int x1)]) hx hb dX11_summers_15 rfl hl (by decide) rfl (fun ls hl => ?_)
      refine lv_iconst (v := 0) hx hb dX11_summers_16 (by decide) ?_
      refine lv_istore_n (lv' := [(3, .int 0), (2, .int 0), (0, .ref (wB ω + 1)), (1, .int x1)]) hx hb dX11_summers_17 rfl hl (by decide) rfl (fun ls hl => ?_)
      exact wX11_summers_l18 hW C hr hk FU _ _ H locs ls hH hS (lv_sub hl [2, 3, 1, 0] rfl) h
    · have h := ite_f hc h
      refine lv_iconst (v := (-1)) hx hb dX11_summers_12 (by decide) ?_
      exact h_iret C hr hk hH hS rfl (by cases h; rfl) dX11_summers_13
theorem c_X11_summers {l : Launch} {ω : WW} {x1 : Int32} (hW : FWC ω) {μ : Mem} {rr : Int32} (h : fX11_summers x1 μ = some rr) : Con l yX11_summers cX11_summers 4 (some .int) 2 ω [.ref (wB ω + 1), .int x1] μ (some (.int rr)) μ :=
  con_of (by decide) (Nat.le_of_ble_eq_true rfl) (fun p e s m args below meth c ls C hr hk hl hH hS => wX11_summers_e hW C hr hk hH hS (lv_sub hl [0, 1] rfl) h)
set_option maxHeartbeats 4000000 in
set_option maxRecDepth 100000 in
theorem wX9_add_e (hW : FWC ω) (C : Cx ω p s m args c cX9_add 4 RX9) (hr : meth.sig.returnType = some .int) (hk : meth.locks = false) {rr : Int32} {μo : Mem} {x1 : Int32} {x2 : Int32} {x3 : Int32} {μ : Mem} {H : Heap} {locs : List Loc} {ls : Array Slot} (hH : Hd ω μ H) (hS : FS ω s H locs) (hl : lv_has ls 4 [(0, .ref (wB ω + 186)), (1, .int x1), (2, .int x2), (3, .int x3)]) (h : fX9_add x1 x2 x3 μ = some (rr, μo)) : W p l e (rmd 1) s m args below meth c H locs 0 0 (MQ below (QR ω (some (.int rr)) μo) args s 0 0 (wA ω)) (F0 m 0 ls []) := by
  have hx := C.1
  have hb := C.2.1
  unfold fX9_add at h
  refine lv_aload_n hx hb dX9_add_0 rfl (lv_at hl 0 rfl) ?_
  refine g_463 C hH (jC_186 hW) dX9_add_1 ?_
  refine lv_bipush (v := 20) hx hb dX9_add_4 (by decide) ?_
  refine lv_icmp_lt (tgt := 11) hx hb dX9_add_6 (by decide) (fun hc => ?_) (fun hc => ?_)
  · have h := ite_t hc h
    refine lv_aload_n hx hb dX9_add_11 rfl (lv_at hl 0 rfl) ?_
    refine g_460 (i := 187) C hH (jC_186 hW) rfl dX9_add_12 ?_
    refine lv_aload_n hx hb dX9_add_15 rfl (lv_at hl 0 rfl) ?_
    refine g_463 C hH (jC_186 hW) dX9_add_16 ?_
    refine lv_iload_n hx hb dX9_add_19 rfl (lv_at hl 1 rfl) ?_
    obtain ⟨b1, h⟩ := gd_e h
    obtain ⟨μ2, e3, h⟩ := bd_e h
    refine h_iast C hH hS (jC_187 hW).1 (jC_187 hW).2.1 b1 dX9_add_20 (fun H locs hH hS => ?_)
    have hH := Hd.to e3 hH
    refine lv_aload_n hx hb dX9_add_21 rfl (lv_at hl 0 rfl) ?_
    refine g_461 (i := 188) C hH (jC_186 hW) rfl dX9_add_22 ?_
    refine lv_aload_n hx hb dX9_add_25 rfl (lv_at hl 0 rfl) ?_
    refine g_463 C hH (jC_186 hW) dX9_add_26 ?_
    refine lv_iload_n hx hb dX9_add_29 rfl (lv_at hl 2 rfl) ?_
    obtain ⟨b4, h⟩ := gd_e h
    obtain ⟨μ5, e6, h⟩ := bd_e h
    refine h_iast C hH hS (jC_188 hW).1 (jC_188 hW).2.1 b4 dX9_add_30 (fun H locs hH hS => ?_)
    have hH := Hd.to e6 hH
    refine lv_aload_n hx hb dX9_add_31 rfl (lv_at hl 0 rfl) ?_
    refine g_462 (i := 189) C hH (jC_186 hW) rfl dX9_add_32 ?_
    refine lv_aload_n hx hb dX9_add_35 rfl (lv_at hl 0 rfl) ?_
    refine g_463 C hH (jC_186 hW) dX9_add_36 ?_
    refine lv_iload_n hx hb dX9_add_39 rfl (lv_at hl 3 rfl) ?_
    obtain ⟨b7, h⟩ := gd_e h
    obtain ⟨μ8, e9, h⟩ := bd_e h
    refine h_zast (y := x3 &&& 1) C hH hS (jC_189 hW).1 (jC_189 hW).2.1 b7 rfl dX9_add_40 (fun H locs hH hS => ?_)
    have hH := Hd.to e9 hH
    refine lv_aload_n hx hb dX9_add_41 rfl (lv_at hl 0 rfl) ?_
    refine lv_dup hx hb dX9_add_42 rfl ?_
    refine g_463 C hH (jC_186 hW) dX9_add_43 ?_
    refine lv_iconst (v := 1) hx hb dX9_add_46 (by decide) ?_
    refine lv_iadd hx hb dX9_add_47 ?_
    obtain ⟨μ10, e11, h⟩ := bd_e h
    refine p_463 C hH hS (jC_186 hW) dX9_add_48 (fun H locs hH hS => ?_)
    have hH := Hd.to e11 hH
    refine lv_aload_n hx hb dX9_add_51 rfl (lv_at hl 0 rfl) ?_
    refine g_463 C hH (jC_186 hW) dX9_add_52 ?_
    refine lv_iconst (v := 1) hx hb dX9_add_55 (by decide) ?_
    refine lv_isub hx hb dX9_add_56 ?_
    exact h_iret C hr hk hH hS rfl (by cases h; rfl) dX9_add_57
  · have h := ite_f hc h
    refine lv_iconst (v := (-1)) hx hb dX9_add_9 (by decide) ?_
    exact h_iret C hr hk hH hS rfl (by cases h; rfl) dX9_add_10
theorem c_X9_add {l : Launch} {ω : WW} {x1 : Int32} {x2 : Int32} {x3 : Int32} (hW : FWC ω) {μ : Mem} {rr : Int32} {μo : Mem} (h : fX9_add x1 x2 x3 μ = some (rr, μo)) : Con l yX9_add cX9_add 4 (some .int) 1 ω [.ref (wB ω + 186), .int x1, .int x2, .int x3] μ (some (.int rr)) μo :=
  con_of (by decide) (Nat.le_of_ble_eq_true rfl) (fun p e s m args below meth c ls C hr hk hl hH hS => wX9_add_e hW C hr hk hH hS (lv_sub hl [0, 1, 2, 3] rfl) h)
set_option maxHeartbeats 4000000 in
set_option maxRecDepth 100000 in
theorem wX11_tell_e (hW : FWC ω) (C : Cx ω p s m args c cX11_tell 4 RX11) (hr : meth.sig.returnType = some .int) (hk : meth.locks = false) {rr : Int32} {μo : Mem} {x1 : Int32} {x2 : Int32} {x3 : Int32} {μ : Mem} {H : Heap} {locs : List Loc} {ls : Array Slot} (hH : Hd ω μ H) (hS : FS ω s H locs) (hl : lv_has ls 4 [(0, .ref (wB ω + 1)), (1, .int x1), (2, .int x2), (3, .int x3)]) (h : fX11_tell x1 x2 x3 μ = some (rr, μo)) : W p l e (rmd 2) s m args below meth c H locs 0 0 (MQ below (QR ω (some (.int rr)) μo) args s 0 0 (wA ω)) (F0 m 0 ls []) := by
  have hx := C.1
  have hb := C.2.1
  unfold fX11_tell at h
  refine lv_iload_n hx hb dX11_tell_0 rfl (lv_at hl 1 rfl) ?_
  refine lv_if_lt (tgt := 20) hx hb dX11_tell_1 (by decide) (fun hc => ?_) (fun hc => ?_)
  · have h := ite_t hc h
    refine lv_iconst (v := (-1)) hx hb dX11_tell_20 (by decide) ?_
    exact h_iret C hr hk hH hS rfl (by cases h; rfl) dX11_tell_21
  · have h := ite_f hc h
    refine lv_iload_n hx hb dX11_tell_4 rfl (lv_at hl 1 rfl) ?_
    refine lv_iconst (v := 4) hx hb dX11_tell_5 (by decide) ?_
    refine lv_icmp_ge (tgt := 20) hx hb dX11_tell_6 (by decide) (fun hc => ?_) (fun hc => ?_)
    · have h := ite_t hc h
      refine lv_iconst (v := (-1)) hx hb dX11_tell_20 (by decide) ?_
      exact h_iret C hr hk hH hS rfl (by cases h; rfl) dX11_tell_21
    · have h := ite_f hc h
      refine lv_iload_n hx hb dX11_tell_9 rfl (lv_at hl 2 rfl) ?_
      refine lv_if_lt (tgt := 20) hx hb dX11_tell_10 (by decide) (fun hc => ?_) (fun hc => ?_)
      · have h := ite_t hc h
        refine lv_iconst (v := (-1)) hx hb dX11_tell_20 (by decide) ?_
        exact h_iret C hr hk hH hS rfl (by cases h; rfl) dX11_tell_21
      · have h := ite_f hc h
        refine lv_iload_n hx hb dX11_tell_13 rfl (lv_at hl 2 rfl) ?_
        refine lv_sipush (v := 999) hx hb dX11_tell_14 (by decide) ?_
        refine lv_icmp_le (tgt := 22) hx hb dX11_tell_17 (by decide) (fun hc => ?_) (fun hc => ?_)
        · have h := ite_t hc h
          refine lv_aload_n hx hb dX11_tell_22 rfl (lv_at hl 0 rfl) ?_
          refine g_487 (i := 186) C hH (jC_1 hW) rfl dX11_tell_23 ?_
          refine lv_iload_n hx hb dX11_tell_26 rfl (lv_at hl 1 rfl) ?_
          refine lv_iload_n hx hb dX11_tell_27 rfl (lv_at hl 2 rfl) ?_
          refine lv_iload_n hx hb dX11_tell_28 rfl (lv_at hl 3 rfl) ?_
          obtain ⟨r3, μ2, e1, h⟩ := b2_e h
          refine cVi (as := [.int x1, .int x2, .int x3]) (rest := []) (c_X9_add hW e1) C hl.1 hH hS rfl (jC_186 hW) rfl wd_1119 wd_1118 mw_X9_add wd_1117 rfl (rm_ok (by decide) (by decide)) (Nat.le_of_ble_eq_true rfl) ⟨Nat.zero_le _, Nat.zero_le _⟩ (by decide) dX11_tell_29 (fun H locs hH hS => ?_)
          exact h_iret C hr hk hH hS rfl (by cases h; rfl) dX11_tell_32
        · have h := ite_f hc h
          refine lv_iconst (v := (-1)) hx hb dX11_tell_20 (by decide) ?_
          exact h_iret C hr hk hH hS rfl (by cases h; rfl) dX11_tell_21
theorem c_X11_tell {l : Launch} {ω : WW} {x1 : Int32} {x2 : Int32} {x3 : Int32} (hW : FWC ω) {μ : Mem} {rr : Int32} {μo : Mem} (h : fX11_tell x1 x2 x3 μ = some (rr, μo)) : Con l yX11_tell cX11_tell 4 (some .int) 2 ω [.ref (wB ω + 1), .int x1, .int x2, .int x3] μ (some (.int rr)) μo :=
  con_of (by decide) (Nat.le_of_ble_eq_true rfl) (fun p e s m args below meth c ls C hr hk hl hH hS => wX11_tell_e hW C hr hk hH hS (lv_sub hl [0, 1, 2, 3] rfl) h)
set_option maxHeartbeats 4000000 in
set_option maxRecDepth 100000 in
theorem wX11_then_e (hW : FWC ω) (C : Cx ω p s m args c cX11_then 4 RX11) (hr : meth.sig.returnType = some .int) (hk : meth.locks = false) {rr : Int32} {μo : Mem} {x1 : Int32} {x2 : Int32} {x3 : Int32} {μ : Mem} {H : Heap} {locs : List Loc} {ls : Array Slot} (hH : Hd ω μ H) (hS : FS ω s H locs) (hl : lv_has ls 4 [(0, .ref (wB ω + 1)), (1, .int x1), (2, .int x2), (3, .int x3)]) (h : fX11_then x1 x2 x3 μ = some (rr, μo)) : W p l e (rmd 6) s m args below meth c H locs 0 0 (MQ below (QR ω (some (.int rr)) μo) args s 0 0 (wA ω)) (F0 m 0 ls []) := by
  have hx := C.1
  have hb := C.2.1
  unfold fX11_then at h
  refine lv_aload_n hx hb dX11_then_0 rfl (lv_at hl 0 rfl) ?_
  refine lv_iload_n hx hb dX11_then_1 rfl (lv_at hl 1 rfl) ?_
  obtain ⟨r2, e1, h⟩ := b1_e h
  refine cVi (as := [.int x1]) (rest := []) (c_X11_isHouse hW e1) C hl.1 hH hS rfl (jC_1 hW) rfl wd_15 wd_741 mw_X11_isHouse wd_739 rfl (rm_ok (by decide) (by decide)) (Nat.le_of_ble_eq_true rfl) ⟨Nat.zero_le _, Nat.zero_le _⟩ (by decide) dX11_then_2 (fun H locs hH hS => ?_)
  refine lv_if_eq (tgt := 27) hx hb dX11_then_5 (by decide) (fun hc => ?_) (fun hc => ?_)
  · have h := ite_t hc h
    refine lv_iconst (v := (-1)) hx hb dX11_then_27 (by decide) ?_
    exact h_iret C hr hk hH hS rfl (by cases h; rfl) dX11_then_28
  · have h := ite_f hc h
    refine lv_iload_n hx hb dX11_then_8 rfl (lv_at hl 2 rfl) ?_
    refine lv_if_lt (tgt := 27) hx hb dX11_then_9 (by decide) (fun hc => ?_) (fun hc => ?_)
    · have h := ite_t hc h
      refine lv_iconst (v := (-1)) hx hb dX11_then_27 (by decide) ?_
      exact h_iret C hr hk hH hS rfl (by cases h; rfl) dX11_then_28
    · have h := ite_f hc h
      refine lv_iload_n hx hb dX11_then_12 rfl (lv_at hl 2 rfl) ?_
      refine lv_bipush (v := 60) hx hb dX11_then_13 (by decide) ?_
      refine lv_icmp_gt (tgt := 27) hx hb dX11_then_15 (by decide) (fun hc => ?_) (fun hc => ?_)
      · have h := ite_t hc h
        refine lv_iconst (v := (-1)) hx hb dX11_then_27 (by decide) ?_
        exact h_iret C hr hk hH hS rfl (by cases h; rfl) dX11_then_28
      · have h := ite_f hc h
        refine lv_iload_n hx hb dX11_then_18 rfl (lv_at hl 3 rfl) ?_
        refine lv_if_lt (tgt := 27) hx hb dX11_then_19 (by decide) (fun hc => ?_) (fun hc => ?_)
        · have h := ite_t hc h
          refine lv_iconst (v := (-1)) hx hb dX11_then_27 (by decide) ?_
          exact h_iret C hr hk hH hS rfl (by cases h; rfl) dX11_then_28
        · have h := ite_f hc h
          refine lv_iload_n hx hb dX11_then_22 rfl (lv_at hl 3 rfl) ?_
          refine lv_iconst (v := 2) hx hb dX11_then_23 (by decide) ?_
          refine lv_icmp_le (tgt := 29) hx hb dX11_then_24 (by decide) (fun hc => ?_) (fun hc => ?_)
          · have h := ite_t hc h
            refine lv_aload_n hx hb dX11_then_29 rfl (lv_at hl 0 rfl) ?_
            refine lv_iload_n hx hb dX11_then_30 rfl (lv_at hl 1 rfl) ?_
            refine lv_iload_n hx hb dX11_then_31 rfl (lv_at hl 2 rfl) ?_
            refine lv_aload_n hx hb dX11_then_32 rfl (lv_at hl 0 rfl) ?_
            refine g_476 (i := 17) C hH (jC_1 hW) rfl dX11_then_33 ?_
            refine g_277 C hH (jC_17 hW) dX11_then_36 ?_
            obtain ⟨μ4, e3, h⟩ := b1_e h
            refine cVv (as := [.int x1, .int x2, .int (μ.1 17 6)]) (rest := []) (c_X11_lookAhead hW e3) C hl.1 hH hS rfl (jC_1 hW) rfl wd_23 wd_1015 mw_X11_lookAhead wd_1013 rfl (rm_ok (by decide) (by decide)) (Nat.le_of_ble_eq_true rfl) ⟨Nat.zero_le _, Nat.zero_le _⟩ (by decide) dX11_then_39 (fun H locs hH hS => ?_)
            refine lv_iload_n hx hb dX11_then_42 rfl (lv_at hl 3 rfl) ?_
            by_cases b7 : x3 = 0
            · have h := ite_t b7 h
              refine lv_lookup (tgt := 68) (off := 25) hx hb dX11_then_43 (by decide) (by rw [b7]; decide) (by decide) ?_
              refine lv_aload_n hx hb dX11_then_68 rfl (lv_at hl 0 rfl) ?_
              refine g_478 (i := 26) C hH (jC_1 hW) rfl dX11_then_69 ?_
              refine lv_iload_n hx hb dX11_then_72 rfl (lv_at hl 1 rfl) ?_
              refine lv_iconst (v := 2) hx hb dX11_then_73 (by decide) ?_
              obtain ⟨r6, e5, h⟩ := b1_e h
              refine cVi (as := [.int x1, .int 2]) (rest := []) (c_X7_get (sC_26 hW) e5) C hl.1 hH hS rfl (jC_26 hW) rfl wd_745 wd_744 mw_X7_get wd_743 rfl (rm_ok (by decide) (by decide)) (Nat.le_of_ble_eq_true rfl) ⟨Nat.zero_le _, Nat.zero_le _⟩ (by decide) dX11_then_74 (fun H locs hH hS => ?_)
              exact h_iret C hr hk hH hS rfl (by cases h; rfl) dX11_then_77
            have h := ite_f b7 h
            by_cases b10 : x3 = 1
            · have h := ite_t b10 h
              refine lv_lookup (tgt := 78) (off := 35) hx hb dX11_then_43 (by decide) (by rw [b10]; decide) (by decide) ?_
              refine lv_aload_n hx hb dX11_then_78 rfl (lv_at hl 0 rfl) ?_
              refine g_478 (i := 26) C hH (jC_1 hW) rfl dX11_then_79 ?_
              refine lv_iload_n hx hb dX11_then_82 rfl (lv_at hl 1 rfl) ?_
              refine lv_iconst (v := 3) hx hb dX11_then_83 (by decide) ?_
              obtain ⟨r9, e8, h⟩ := b1_e h
              refine cVi (as := [.int x1, .int 3]) (rest := []) (c_X7_get (sC_26 hW) e8) C hl.1 hH hS rfl (jC_26 hW) rfl wd_745 wd_744 mw_X7_get wd_743 rfl (rm_ok (by decide) (by decide)) (Nat.le_of_ble_eq_true rfl) ⟨Nat.zero_le _, Nat.zero_le _⟩ (by decide) dX11_then_84 (fun H locs hH hS => ?_)
              exact h_iret C hr hk hH hS rfl (by cases h; rfl) dX11_then_87
            have h := ite_f b10 h
            have b7 := ne_ti (z := 0) b7 (by decide)
            have b10 := ne_ti (z := 1) b10 (by decide)
            refine lv_lookup (tgt := 88) (off := 45) hx hb dX11_then_43 (by decide) (by simp [Op.lookupswitch.offset, b7, Ne.symm b7, b10, Ne.symm b10]) (by decide) ?_
            refine lv_aload_n hx hb dX11_then_88 rfl (lv_at hl 0 rfl) ?_
            refine g_478 (i := 26) C hH (jC_1 hW) rfl dX11_then_89 ?_
            refine lv_iload_n hx hb dX11_then_92 rfl (lv_at hl 1 rfl) ?_
            refine lv_iconst (v := 1) hx hb dX11_then_93 (by decide) ?_
            obtain ⟨r12, e11, h⟩ := b1_e h
            refine cVi (as := [.int x1, .int 1]) (rest := []) (c_X7_get (sC_26 hW) e11) C hl.1 hH hS rfl (jC_26 hW) rfl wd_745 wd_744 mw_X7_get wd_743 rfl (rm_ok (by decide) (by decide)) (Nat.le_of_ble_eq_true rfl) ⟨Nat.zero_le _, Nat.zero_le _⟩ (by decide) dX11_then_94 (fun H locs hH hS => ?_)
            exact h_iret C hr hk hH hS rfl (by cases h; rfl) dX11_then_97
          · have h := ite_f hc h
            refine lv_iconst (v := (-1)) hx hb dX11_then_27 (by decide) ?_
            exact h_iret C hr hk hH hS rfl (by cases h; rfl) dX11_then_28
theorem c_X11_then {l : Launch} {ω : WW} {x1 : Int32} {x2 : Int32} {x3 : Int32} (hW : FWC ω) {μ : Mem} {rr : Int32} {μo : Mem} (h : fX11_then x1 x2 x3 μ = some (rr, μo)) : Con l yX11_then cX11_then 4 (some .int) 6 ω [.ref (wB ω + 1), .int x1, .int x2, .int x3] μ (some (.int rr)) μo :=
  con_of (by decide) (Nat.le_of_ble_eq_true rfl) (fun p e s m args below meth c ls C hr hk hl hH hS => wX11_then_e hW C hr hk hH hS (lv_sub hl [0, 1, 2, 3] rfl) h)
set_option maxHeartbeats 4000000 in
set_option maxRecDepth 100000 in
theorem wX11_twins_s39 (hW : FWC ω) (C : Cx ω p s m args c cX11_twins 7 RX11) (hr : meth.sig.returnType = some .int) (hk : meth.locks = false) {rr : Int32} {μ : Mem} {x1 : Int32} {x2 : Int32} {x3 : Int32} {x4 : Int32} {x5 : Int32} {rec : Int32 → Int32 → Int32 → Option Int32} (hrec : ∀ (z2 : Int32) (z3 : Int32) (z5 : Int32) (H : Heap) (locs : List Loc) (ls : Array Slot), Hd ω μ H → FS ω s H locs → lv_has ls 7 [(0, .ref (wB ω + 1)), (1, .int x1), (2, .int z2), (3, .int z3), (4, .int x4), (5, .int z5)] → rec z2 z3 z5 = some rr → W p l e (rmd 3) s m args below meth c H locs 0 0 (MQ below (QR ω (some (.int rr)) μ) args s 0 0 (wA ω)) (F0 m 39 ls [])) {K : Int32 → Int32 → Option Int32} (hK : ∀ (z2 : Int32) (z3 : Int32) (H : Heap) (locs : List Loc) (ls : Array Slot), Hd ω μ H → FS ω s H locs → lv_has ls 7 [(0, .ref (wB ω + 1)), (1, .int x1), (2, .int z2), (3, .int z3), (4, .int x4)] → K z2 z3 = some rr → W p l e (rmd 3) s m args below meth c H locs 0 0 (MQ below (QR ω (some (.int rr)) μ) args s 0 0 (wA ω)) (F0 m 88 ls [])) {H : Heap} {locs : List Loc} {ls : Array Slot} (hH : Hd ω μ H) (hS : FS ω s H locs) (hl : lv_has ls 7 [(0, .ref (wB ω + 1)), (1, .int x1), (2, .int x2), (3, .int x3), (4, .int x4), (5, .int x5)]) (h : fX11_twins_s39 rec K x4 x2 x3 x5 μ = some rr) : W p l e (rmd 3) s m args below meth c H locs 0 0 (MQ below (QR ω (some (.int rr)) μ) args s 0 0 (wA ω)) (F0 m 39 ls []) := by
  have hx := C.1
  have hb := C.2.1
  unfold fX11_twins_s39 at h
  refine lv_iload hx hb dX11_twins_39 (lv_at hl 5 rfl) ?_
  refine lv_aload_n hx hb dX11_twins_41 rfl (lv_at hl 0 rfl) ?_
  refine g_476 (i := 17) C hH (jC_1 hW) rfl dX11_twins_42 ?_
  refine g_265 C hH (jC_17 hW) dX11_twins_45 ?_
  refine lv_icmp_ge (tgt := 88) hx hb dX11_twins_48 (by decide) (fun hc => ?_) (fun hc => ?_)
  · have h := ite_t hc h
    exact hK _ _ H locs ls hH hS (lv_sub hl [0, 1, 2, 3, 4] rfl) h
  · have h := ite_f hc h
    refine lv_aload_n hx hb dX11_twins_51 rfl (lv_at hl 0 rfl) ?_
    refine g_477 (i := 24) C hH (jC_1 hW) rfl dX11_twins_52 ?_
    refine lv_iload hx hb dX11_twins_55 (lv_at hl 4 rfl) ?_
    refine lv_iload hx hb dX11_twins_57 (lv_at hl 5 rfl) ?_
    obtain ⟨r4, e3, h⟩ := b1_e h
    refine cVi (as := [.int x4, .int x5]) (rest := []) (c_X7_keptApart (sC_24 hW) e3) C hl.1 hH hS rfl (jC_24 hW) rfl wd_1078 wd_1077 mw_X7_keptApart wd_1076 rfl (rm_ok (by decide) (by decide)) (Nat.le_of_ble_eq_true rfl) ⟨Nat.zero_le _, Nat.zero_le _⟩ (by decide) dX11_twins_59 (fun H locs hH hS => ?_)
    refine lv_istore (lv' := [(6, .int r4), (0, .ref (wB ω + 1)), (1, .int x1), (2, .int x2), (3, .int x3), (4, .int x4), (5, .int x5)]) hx hb dX11_twins_62 hl (by decide) rfl (fun ls hl => ?_)
    refine lv_iload hx hb dX11_twins_64 (lv_at hl 0 rfl) ?_
    refine lv_iload_n hx hb dX11_twins_66 rfl (lv_at hl 4 rfl) ?_
    refine lv_icmp_ge (tgt := 82) hx hb dX11_twins_67 (by decide) (fun hc => ?_) (fun hc => ?_)
    · have h := ite_t hc h
      refine lv_iinc (v := x5 + 1) (lv' := [(5, .int (x5 + 1)), (6, .int r4), (0, .ref (wB ω + 1)), (1, .int x1), (2, .int x2), (3, .int x3), (4, .int x4)]) hx hb dX11_twins_82 hl (k := 6) rfl rfl (by decide) rfl (fun ls hl => ?_)
      refine lv_goto (tgt := 39) hx hb dX11_twins_85 (by decide) ?_
      exact hrec _ _ _ H locs ls hH hS (lv_sub hl [2, 3, 4, 5, 6, 0] rfl) h
    · have h := ite_f hc h
      refine lv_iload hx hb dX11_twins_70 (lv_at hl 0 rfl) ?_
      refine lv_istore_n (lv' := [(3, .int r4), (6, .int r4), (0, .ref (wB ω + 1)), (1, .int x1), (2, .int x2), (4, .int x4), (5, .int x5)]) hx hb dX11_twins_72 rfl hl (by decide) rfl (fun ls hl => ?_)
      refine lv_bipush (v := 10) hx hb dX11_twins_73 (by decide) ?_
      refine lv_iload hx hb dX11_twins_75 (lv_at hl 5 rfl) ?_
      refine lv_imul hx hb dX11_twins_77 ?_
      refine lv_iload hx hb dX11_twins_78 (lv_at hl 6 rfl) ?_
      refine lv_iadd hx hb dX11_twins_80 ?_
      obtain ⟨y5, e6, h⟩ := bd_e h
      refine h_topi e6 ?_
      refine lv_istore_n (lv' := [(2, .int y5), (3, .int r4), (6, .int r4), (0, .ref (wB ω + 1)), (1, .int x1), (4, .int x4), (5, .int x5)]) hx hb dX11_twins_81 rfl hl (by decide) rfl (fun ls hl => ?_)
      refine lv_iinc (v := x5 + 1) (lv' := [(5, .int (x5 + 1)), (2, .int y5), (3, .int r4), (6, .int r4), (0, .ref (wB ω + 1)), (1, .int x1), (4, .int x4)]) hx hb dX11_twins_82 hl (k := 6) rfl rfl (by decide) rfl (fun ls hl => ?_)
      refine lv_goto (tgt := 39) hx hb dX11_twins_85 (by decide) ?_
      exact hrec _ _ _ H locs ls hH hS (lv_sub hl [4, 5, 1, 2, 6, 0] rfl) h
theorem wX11_twins_l39 (hW : FWC ω) (C : Cx ω p s m args c cX11_twins 7 RX11) (hr : meth.sig.returnType = some .int) (hk : meth.locks = false) {rr : Int32} {μ : Mem} {x4 : Int32} {x1 : Int32} {K : Int32 → Int32 → Option Int32} (hK : ∀ (z2 : Int32) (z3 : Int32) (H : Heap) (locs : List Loc) (ls : Array Slot), Hd ω μ H → FS ω s H locs → lv_has ls 7 [(0, .ref (wB ω + 1)), (1, .int x1), (2, .int z2), (3, .int z3), (4, .int x4)] → K z2 z3 = some rr → W p l e (rmd 3) s m args below meth c H locs 0 0 (MQ below (QR ω (some (.int rr)) μ) args s 0 0 (wA ω)) (F0 m 88 ls [])) : ∀ (n : Nat) (x2 : Int32) (x3 : Int32) (x5 : Int32) (H : Heap) (locs : List Loc) (ls : Array Slot), Hd ω μ H → FS ω s H locs → lv_has ls 7 [(0, .ref (wB ω + 1)), (1, .int x1), (2, .int x2), (3, .int x3), (4, .int x4), (5, .int x5)] → fX11_twins_l39 K x4 μ n x2 x3 x5 = some rr → W p l e (rmd 3) s m args below meth c H locs 0 0 (MQ below (QR ω (some (.int rr)) μ) args s 0 0 (wA ω)) (F0 m 39 ls []) := by
  intro n
  induction n with
  | zero => intro x2 x3 x5 H locs ls hH hS hl h; cases h
  | succ n ih => intro x2 x3 x5 H locs ls hH hS hl h; exact wX11_twins_s39 hW C hr hk ih hK hH hS hl h
set_option maxHeartbeats 4000000 in
set_option maxRecDepth 100000 in
theorem wX11_twins_s21 (hW : FWC ω) (C : Cx ω p s m args c cX11_twins 7 RX11) (hr : meth.sig.returnType = some .int) (hk : meth.locks = false) {rr : Int32} {μ : Mem} {x1 : Int32} {x2 : Int32} {x3 : Int32} {x4 : Int32} {rec : Int32 → Int32 → Int32 → Option Int32} (hrec : ∀ (z2 : Int32) (z3 : Int32) (z4 : Int32) (H : Heap) (locs : List Loc) (ls : Array Slot), Hd ω μ H → FS ω s H locs → lv_has ls 7 [(0, .ref (wB ω + 1)), (1, .int x1), (2, .int z2), (3, .int z3), (4, .int z4)] → rec z2 z3 z4 = some rr → W p l e (rmd 3) s m args below meth c H locs 0 0 (MQ below (QR ω (some (.int rr)) μ) args s 0 0 (wA ω)) (F0 m 21 ls [])) {K : Int32 → Int32 → Option Int32} (hK : ∀ (z2 : Int32) (z3 : Int32) (H : Heap) (locs : List Loc) (ls : Array Slot), Hd ω μ H → FS ω s H locs → lv_has ls 7 [(1, .int x1), (2, .int z2), (3, .int z3)] → K z2 z3 = some rr → W p l e (rmd 3) s m args below meth c H locs 0 0 (MQ below (QR ω (some (.int rr)) μ) args s 0 0 (wA ω)) (F0 m 94 ls [])) {H : Heap} {locs : List Loc} {ls : Array Slot} (hH : Hd ω μ H) (hS : FS ω s H locs) (hl : lv_has ls 7 [(0, .ref (wB ω + 1)), (1, .int x1), (2, .int x2), (3, .int x3), (4, .int x4)]) (h : fX11_twins_s21 rec K x2 x3 x4 μ = some rr) : W p l e (rmd 3) s m args below meth c H locs 0 0 (MQ below (QR ω (some (.int rr)) μ) args s 0 0 (wA ω)) (F0 m 21 ls []) := by
  have hx := C.1
  have hb := C.2.1
  unfold fX11_twins_s21 at h
  refine lv_iload hx hb dX11_twins_21 (lv_at hl 4 rfl) ?_
  refine lv_aload_n hx hb dX11_twins_23 rfl (lv_at hl 0 rfl) ?_
  refine g_476 (i := 17) C hH (jC_1 hW) rfl dX11_twins_24 ?_
  refine g_265 C hH (jC_17 hW) dX11_twins_27 ?_
  refine lv_icmp_ge (tgt := 94) hx hb dX11_twins_30 (by decide) (fun hc => ?_) (fun hc => ?_)
  · have h := ite_t hc h
    exact hK _ _ H locs ls hH hS (lv_sub hl [1, 2, 3] rfl) h
  · have h := ite_f hc h
    refine lv_iload hx hb dX11_twins_33 (lv_at hl 4 rfl) ?_
    refine lv_iconst (v := 1) hx hb dX11_twins_35 (by decide) ?_
    refine lv_iadd hx hb dX11_twins_36 ?_
    obtain ⟨y1, e2, h⟩ := bd_e h
    refine h_topi e2 ?_
    refine lv_istore (lv' := [(5, .int y1), (0, .ref (wB ω + 1)), (1, .int x1), (2, .int x2), (3, .int x3), (4, .int x4)]) hx hb dX11_twins_37 hl (by decide) rfl (fun ls hl => ?_)
    refine wX11_twins_l39 hW C hr hk (fun y7 y8 H locs ls hH hS hl h => ?_) FU _ _ _ H locs ls hH hS (lv_sub hl [1, 2, 3, 4, 5, 0] rfl) h
    refine lv_iinc (v := x4 + 1) (lv' := [(4, .int (x4 + 1)), (0, .ref (wB ω + 1)), (1, .int x1), (2, .int y7), (3, .int y8)]) hx hb dX11_twins_88 hl (k := 4) rfl rfl (by decide) rfl (fun ls hl => ?_)
    refine lv_goto (tgt := 21) hx hb dX11_twins_91 (by decide) ?_
    exact hrec _ _ _ H locs ls hH hS (lv_sub hl [1, 2, 3, 4, 0] rfl) h
theorem wX11_twins_l21 (hW : FWC ω) (C : Cx ω p s m args c cX11_twins 7 RX11) (hr : meth.sig.returnType = some .int) (hk : meth.locks = false) {rr : Int32} {μ : Mem} {x1 : Int32} {K : Int32 → Int32 → Option Int32} (hK : ∀ (z2 : Int32) (z3 : Int32) (H : Heap) (locs : List Loc) (ls : Array Slot), Hd ω μ H → FS ω s H locs → lv_has ls 7 [(1, .int x1), (2, .int z2), (3, .int z3)] → K z2 z3 = some rr → W p l e (rmd 3) s m args below meth c H locs 0 0 (MQ below (QR ω (some (.int rr)) μ) args s 0 0 (wA ω)) (F0 m 94 ls [])) : ∀ (n : Nat) (x2 : Int32) (x3 : Int32) (x4 : Int32) (H : Heap) (locs : List Loc) (ls : Array Slot), Hd ω μ H → FS ω s H locs → lv_has ls 7 [(0, .ref (wB ω + 1)), (1, .int x1), (2, .int x2), (3, .int x3), (4, .int x4)] → fX11_twins_l21 K μ n x2 x3 x4 = some rr → W p l e (rmd 3) s m args below meth c H locs 0 0 (MQ below (QR ω (some (.int rr)) μ) args s 0 0 (wA ω)) (F0 m 21 ls []) := by
  intro n
  induction n with
  | zero => intro x2 x3 x4 H locs ls hH hS hl h; cases h
  | succ n ih => intro x2 x3 x4 H locs ls hH hS hl h; exact wX11_twins_s21 hW C hr hk ih hK hH hS hl h
set_option maxHeartbeats 4000000 in
set_option maxRecDepth 100000 in
theorem wX11_twins_b11 (hW : FWC ω) (C : Cx ω p s m args c cX11_twins 7 RX11) (hr : meth.sig.returnType = some .int) (hk : meth.locks = false) {rr : Int32} {μ : Mem} {x1 : Int32} {H : Heap} {locs : List Loc} {ls : Array Slot} (hH : Hd ω μ H) (hS : FS ω s H locs) (hl : lv_has ls 7 [(0, .ref (wB ω + 1)), (1, .int x1)]) (h : fX11_twins_b11 x1 μ = some rr) : W p l e (rmd 3) s m args below meth c H locs 0 0 (MQ below (QR ω (some (.int rr)) μ) args s 0 0 (wA ω)) (F0 m 11 ls []) := by
  have hx := C.1
  have hb := C.2.1
  unfold fX11_twins_b11 at h
  refine lv_bipush (v := (-2)) hx hb dX11_twins_11 (by decide) ?_
  refine lv_istore_n (lv' := [(2, .int (-2)), (0, .ref (wB ω + 1)), (1, .int x1)]) hx hb dX11_twins_13 rfl hl (by decide) rfl (fun ls hl => ?_)
  refine lv_ldcw (v := 1000000) hx hb C.2.2.2.1 (C.2.2.2.2.1 _ (tg wd_1063 rfl)) dX11_twins_14 ?_
  refine lv_istore_n (lv' := [(3, .int 1000000), (2, .int (-2)), (0, .ref (wB ω + 1)), (1, .int x1)]) hx hb dX11_twins_17 rfl hl (by decide) rfl (fun ls hl => ?_)
  refine lv_iconst (v := 0) hx hb dX11_twins_18 (by decide) ?_
  refine lv_istore (lv' := [(4, .int 0), (3, .int 1000000), (2, .int (-2)), (0, .ref (wB ω + 1)), (1, .int x1)]) hx hb dX11_twins_19 hl (by decide) rfl (fun ls hl => ?_)
  refine wX11_twins_l21 hW C hr hk (fun y9 y10 H locs ls hH hS hl h => ?_) FU _ _ _ H locs ls hH hS (lv_sub hl [3, 4, 2, 1, 0] rfl) h
  refine lv_iload_n hx hb dX11_twins_94 rfl (lv_at hl 0 rfl) ?_
  refine lv_if_eq (tgt := 104) hx hb dX11_twins_95 (by decide) (fun hc => ?_) (fun hc => ?_)
  · have h := ite_t hc h
    refine lv_iload_n hx hb dX11_twins_104 rfl (lv_at hl 1 rfl) ?_
    refine lv_goto (tgt := 109) hx hb dX11_twins_105 (by decide) ?_
    exact h_iret C hr hk hH hS rfl (by cases h; rfl) dX11_twins_109
  · have h := ite_f hc h
    refine lv_iload_n hx hb dX11_twins_98 rfl (lv_at hl 1 rfl) ?_
    refine lv_bipush (v := (-2)) hx hb dX11_twins_99 (by decide) ?_
    refine lv_icmp_ne (tgt := 108) hx hb dX11_twins_101 (by decide) (fun hc => ?_) (fun hc => ?_)
    · have h := ite_f hc h
      refine lv_iload_n hx hb dX11_twins_108 rfl (lv_at hl 2 rfl) ?_
      exact h_iret C hr hk hH hS rfl (by cases h; rfl) dX11_twins_109
    · have h := ite_t hc h
      refine lv_iload_n hx hb dX11_twins_104 rfl (lv_at hl 1 rfl) ?_
      refine lv_goto (tgt := 109) hx hb dX11_twins_105 (by decide) ?_
      exact h_iret C hr hk hH hS rfl (by cases h; rfl) dX11_twins_109
set_option maxHeartbeats 4000000 in
set_option maxRecDepth 100000 in
theorem wX11_twins_e (hW : FWC ω) (C : Cx ω p s m args c cX11_twins 7 RX11) (hr : meth.sig.returnType = some .int) (hk : meth.locks = false) {rr : Int32} {μ : Mem} {x1 : Int32} {H : Heap} {locs : List Loc} {ls : Array Slot} (hH : Hd ω μ H) (hS : FS ω s H locs) (hl : lv_has ls 7 [(0, .ref (wB ω + 1)), (1, .int x1)]) (h : fX11_twins x1 μ = some rr) : W p l e (rmd 3) s m args below meth c H locs 0 0 (MQ below (QR ω (some (.int rr)) μ) args s 0 0 (wA ω)) (F0 m 0 ls []) := by
  have hx := C.1
  have hb := C.2.1
  unfold fX11_twins at h
  refine lv_iload_n hx hb dX11_twins_0 rfl (lv_at hl 1 rfl) ?_
  refine lv_if_eq (tgt := 11) hx hb dX11_twins_1 (by decide) (fun hc => ?_) (fun hc => ?_)
  · have h := ite_t hc h
    exact wX11_twins_b11 hW C hr hk hH hS hl h
  · have h := ite_f hc h
    refine lv_iload_n hx hb dX11_twins_4 rfl (lv_at hl 1 rfl) ?_
    refine lv_iconst (v := 1) hx hb dX11_twins_5 (by decide) ?_
    refine lv_icmp_eq (tgt := 11) hx hb dX11_twins_6 (by decide) (fun hc => ?_) (fun hc => ?_)
    · have h := ite_t hc h
      exact wX11_twins_b11 hW C hr hk hH hS hl h
    · have h := ite_f hc h
      refine lv_iconst (v := (-1)) hx hb dX11_twins_9 (by decide) ?_
      exact h_iret C hr hk hH hS rfl (by cases h; rfl) dX11_twins_10
theorem c_X11_twins {l : Launch} {ω : WW} {x1 : Int32} (hW : FWC ω) {μ : Mem} {rr : Int32} (h : fX11_twins x1 μ = some rr) : Con l yX11_twins cX11_twins 7 (some .int) 3 ω [.ref (wB ω + 1), .int x1] μ (some (.int rr)) μ :=
  con_of (by decide) (Nat.le_of_ble_eq_true rfl) (fun p e s m args below meth c ls C hr hk hl hH hS => wX11_twins_e hW C hr hk hH hS (lv_sub hl [0, 1] rfl) h)
set_option maxHeartbeats 4000000 in
set_option maxRecDepth 100000 in
theorem wX11_undo_e (hW : FWC ω) (C : Cx ω p s m args c cX11_undo 1 RX11) (hr : meth.sig.returnType = some .boolean) (hk : meth.locks = false) {rr : Int32} {μo : Mem} {μ : Mem} {H : Heap} {locs : List Loc} {ls : Array Slot} (hH : Hd ω μ H) (hS : FS ω s H locs) (hl : lv_has ls 1 [(0, .ref (wB ω + 1))]) (h : fX11_undo μ = some (rr, μo)) : W p l e (rmd 4) s m args below meth c H locs 0 0 (MQ below (QR ω (some (.int rr)) μo) args s 0 0 (wA ω)) (F0 m 0 ls []) := by
  have hx := C.1
  have hb := C.2.1
  unfold fX11_undo at h
  refine lv_aload_n hx hb dX11_undo_0 rfl (lv_at hl 0 rfl) ?_
  refine g_480 (i := 30) C hH (jC_1 hW) rfl dX11_undo_1 ?_
  refine lv_aload_n hx hb dX11_undo_4 rfl (lv_at hl 0 rfl) ?_
  refine g_477 (i := 24) C hH (jC_1 hW) rfl dX11_undo_5 ?_
  obtain ⟨r3, μ2, e1, h⟩ := b2_e h
  refine cVi (as := [.ref (wB ω + 24)]) (rest := []) (c_X0_pop hW (sC_24 hW) e1) C hl.1 hH hS rfl (jC_30 hW) rfl wd_893 wd_892 mw_X0_pop wd_891 rfl (rm_ok (by decide) (by decide)) (Nat.le_of_ble_eq_true rfl) ⟨Nat.zero_le _, Nat.zero_le _⟩ (by decide) dX11_undo_8 (fun H locs hH hS => ?_)
  exact h_zret (y := r3 &&& 1) C hr hk hH hS rfl (by cases h; rfl) dX11_undo_11
theorem c_X11_undo {l : Launch} {ω : WW} (hW : FWC ω) {μ : Mem} {rr : Int32} {μo : Mem} (h : fX11_undo μ = some (rr, μo)) : Con l yX11_undo cX11_undo 1 (some .boolean) 4 ω [.ref (wB ω + 1)] μ (some (.int rr)) μo :=
  con_of (by decide) (Nat.le_of_ble_eq_true rfl) (fun p e s m args below meth c ls C hr hk hl hH hS => wX11_undo_e hW C hr hk hH hS (lv_sub hl [0] rfl) h)
set_option maxHeartbeats 4000000 in
set_option maxRecDepth 100000 in
theorem wX11_whose_b26 (hW : FWC ω) (C : Cx ω p s m args c cX11_whose 4 RX11) (hr : meth.sig.returnType = some .int) (hk : meth.locks = false) {rr : Int32} {μ : Mem} {x1 : Int32} {x2 : Int32} {H : Heap} {locs : List Loc} {ls : Array Slot} (hH : Hd ω μ H) (hS : FS ω s H locs) (hl : lv_has ls 4 [(0, .ref (wB ω + 1)), (1, .int x1), (2, .int x2)]) (h : fX11_whose_b26 x1 x2 μ = some rr) : W p l e (rmd 4) s m args below meth c H locs 0 0 (MQ below (QR ω (some (.int rr)) μ) args s 0 0 (wA ω)) (F0 m 26 ls []) := by
  have hx := C.1
  have hb := C.2.1
  unfold fX11_whose_b26 at h
  refine lv_aload_n hx hb dX11_whose_26 rfl (lv_at hl 0 rfl) ?_
  refine g_487 (i := 186) C hH (jC_1 hW) rfl dX11_whose_27 ?_
  refine lv_aload_n hx hb dX11_whose_30 rfl (lv_at hl 0 rfl) ?_
  refine g_477 (i := 24) C hH (jC_1 hW) rfl dX11_whose_31 ?_
  refine lv_aload_n hx hb dX11_whose_34 rfl (lv_at hl 0 rfl) ?_
  refine g_476 (i := 17) C hH (jC_1 hW) rfl dX11_whose_35 ?_
  refine g_265 C hH (jC_17 hW) dX11_whose_38 ?_
  refine lv_iload_n hx hb dX11_whose_41 rfl (lv_at hl 1 rfl) ?_
  obtain ⟨r2, e1, h⟩ := b1_e h
  refine cVi (as := [.ref (wB ω + 24), .int (μ.1 17 2), .int x1]) (rest := []) (c_X9_fitting hW (sC_24 hW) e1) C hl.1 hH hS rfl (jC_186 hW) rfl wd_1131 wd_1130 mw_X9_fitting wd_1129 rfl (rm_ok (by decide) (by decide)) (Nat.le_of_ble_eq_true rfl) ⟨Nat.zero_le _, Nat.zero_le _⟩ (by decide) dX11_whose_42 (fun H locs hH hS => ?_)
  refine lv_istore_n (lv' := [(3, .int r2), (0, .ref (wB ω + 1)), (1, .int x1), (2, .int x2)]) hx hb dX11_whose_45 rfl hl (by decide) rfl (fun ls hl => ?_)
  refine lv_iload_n hx hb dX11_whose_46 rfl (lv_at hl 3 rfl) ?_
  refine lv_if_ne (tgt := 57) hx hb dX11_whose_47 (by decide) (fun hc => ?_) (fun hc => ?_)
  · have h := ite_f hc h
    refine lv_iload_n hx hb dX11_whose_57 rfl (lv_at hl 0 rfl) ?_
    exact h_iret C hr hk hH hS rfl (by cases h; rfl) dX11_whose_58
  · have h := ite_t hc h
    refine lv_iload_n hx hb dX11_whose_50 rfl (lv_at hl 0 rfl) ?_
    obtain ⟨r4, e3, h⟩ := b1_e h
    refine cSi (as := [.int r2]) (rest := []) (c_J6_bitCount_0f7a4 e3) C hl.1 hH hS rfl wd_1140 mw_J6_bitCount_0f7a4 wd_1139 rfl (rm_ok (by decide) (by decide)) (Nat.le_of_ble_eq_true rfl) ⟨Nat.zero_le _, Nat.zero_le _⟩ dX11_whose_51 (fun H locs hH hS => ?_)
    refine lv_goto (tgt := 58) hx hb dX11_whose_54 (by decide) ?_
    exact h_iret C hr hk hH hS rfl (by cases h; rfl) dX11_whose_58
set_option maxHeartbeats 4000000 in
set_option maxRecDepth 100000 in
theorem wX11_whose_e (hW : FWC ω) (C : Cx ω p s m args c cX11_whose 4 RX11) (hr : meth.sig.returnType = some .int) (hk : meth.locks = false) {rr : Int32} {μ : Mem} {x1 : Int32} {x2 : Int32} {H : Heap} {locs : List Loc} {ls : Array Slot} (hH : Hd ω μ H) (hS : FS ω s H locs) (hl : lv_has ls 4 [(0, .ref (wB ω + 1)), (1, .int x1), (2, .int x2)]) (h : fX11_whose x1 x2 μ = some rr) : W p l e (rmd 4) s m args below meth c H locs 0 0 (MQ below (QR ω (some (.int rr)) μ) args s 0 0 (wA ω)) (F0 m 0 ls []) := by
  have hx := C.1
  have hb := C.2.1
  unfold fX11_whose at h
  refine lv_iload_n hx hb dX11_whose_0 rfl (lv_at hl 1 rfl) ?_
  refine lv_if_lt (tgt := 24) hx hb dX11_whose_1 (by decide) (fun hc => ?_) (fun hc => ?_)
  · have h := ite_t hc h
    refine lv_iconst (v := (-1)) hx hb dX11_whose_24 (by decide) ?_
    exact h_iret C hr hk hH hS rfl (by cases h; rfl) dX11_whose_25
  · have h := ite_f hc h
    refine lv_iload_n hx hb dX11_whose_4 rfl (lv_at hl 1 rfl) ?_
    refine lv_aload_n hx hb dX11_whose_5 rfl (lv_at hl 0 rfl) ?_
    refine g_487 (i := 186) C hH (jC_1 hW) rfl dX11_whose_6 ?_
    refine g_464 C hH (jC_186 hW) dX11_whose_9 ?_
    refine lv_icmp_gt (tgt := 24) hx hb dX11_whose_12 (by decide) (fun hc => ?_) (fun hc => ?_)
    · have h := ite_t hc h
      refine lv_iconst (v := (-1)) hx hb dX11_whose_24 (by decide) ?_
      exact h_iret C hr hk hH hS rfl (by cases h; rfl) dX11_whose_25
    · have h := ite_f hc h
      refine lv_iload_n hx hb dX11_whose_15 rfl (lv_at hl 2 rfl) ?_
      refine lv_if_eq (tgt := 26) hx hb dX11_whose_16 (by decide) (fun hc => ?_) (fun hc => ?_)
      · have h := ite_t hc h
        exact wX11_whose_b26 hW C hr hk hH hS hl h
      · have h := ite_f hc h
        refine lv_iload_n hx hb dX11_whose_19 rfl (lv_at hl 2 rfl) ?_
        refine lv_iconst (v := 1) hx hb dX11_whose_20 (by decide) ?_
        refine lv_icmp_eq (tgt := 26) hx hb dX11_whose_21 (by decide) (fun hc => ?_) (fun hc => ?_)
        · have h := ite_t hc h
          exact wX11_whose_b26 hW C hr hk hH hS hl h
        · have h := ite_f hc h
          refine lv_iconst (v := (-1)) hx hb dX11_whose_24 (by decide) ?_
          exact h_iret C hr hk hH hS rfl (by cases h; rfl) dX11_whose_25
theorem c_X11_whose {l : Launch} {ω : WW} {x1 : Int32} {x2 : Int32} (hW : FWC ω) {μ : Mem} {rr : Int32} (h : fX11_whose x1 x2 μ = some rr) : Con l yX11_whose cX11_whose 4 (some .int) 4 ω [.ref (wB ω + 1), .int x1, .int x2] μ (some (.int rr)) μ :=
  con_of (by decide) (Nat.le_of_ble_eq_true rfl) (fun p e s m args below meth c ls C hr hk hl hH hS => wX11_whose_e hW C hr hk hH hS (lv_sub hl [0, 1, 2] rfl) h)
end WK6
