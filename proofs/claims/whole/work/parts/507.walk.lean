theorem dX11_worst_0 : decode cX11_worst 0 = .ok (.iload_n 1, 1) := by decide +kernel
theorem dX11_worst_1 : decode cX11_worst 1 = .ok (.ifCond .eq 10, 3) := by decide +kernel
theorem dX11_worst_4 : decode cX11_worst 4 = .ok (.iload_n 1, 1) := by decide +kernel
theorem dX11_worst_5 : decode cX11_worst 5 = .ok (.iconst 1, 1) := by decide +kernel
theorem dX11_worst_6 : decode cX11_worst 6 = .ok (.if_icmp .eq 5, 3) := by decide +kernel
theorem dX11_worst_9 : decode cX11_worst 9 = .ok (.iconst (-1), 1) := by decide +kernel
theorem dX11_worst_10 : decode cX11_worst 10 = .ok (.ireturn, 1) := by decide +kernel
theorem dX11_worst_11 : decode cX11_worst 11 = .ok (.bipush (-2), 2) := by decide +kernel
theorem dX11_worst_13 : decode cX11_worst 13 = .ok (.istore_n 2, 1) := by decide +kernel
theorem dX11_worst_14 : decode cX11_worst 14 = .ok (.bipush (-2), 2) := by decide +kernel
theorem dX11_worst_16 : decode cX11_worst 16 = .ok (.istore_n 3, 1) := by decide +kernel
theorem dX11_worst_17 : decode cX11_worst 17 = .ok (.iconst 0, 1) := by decide +kernel
theorem dX11_worst_18 : decode cX11_worst 18 = .ok (.istore 4, 2) := by decide +kernel
theorem dX11_worst_20 : decode cX11_worst 20 = .ok (.iload 4, 2) := by decide +kernel
theorem dX11_worst_22 : decode cX11_worst 22 = .ok (.aload_n 0, 1) := by decide +kernel
theorem dX11_worst_23 : decode cX11_worst 23 = .ok (.getfield 23, 3) := by decide +kernel
theorem dX11_worst_26 : decode cX11_worst 26 = .ok (.getfield 158, 3) := by decide +kernel
theorem dX11_worst_29 : decode cX11_worst 29 = .ok (.if_icmp .ge 36, 3) := by decide +kernel
theorem dX11_worst_32 : decode cX11_worst 32 = .ok (.aload_n 0, 1) := by decide +kernel
theorem dX11_worst_33 : decode cX11_worst 33 = .ok (.getfield 23, 3) := by decide +kernel
theorem dX11_worst_36 : decode cX11_worst 36 = .ok (.aload_n 0, 1) := by decide +kernel
theorem dX11_worst_37 : decode cX11_worst 37 = .ok (.getfield 30, 3) := by decide +kernel
theorem dX11_worst_40 : decode cX11_worst 40 = .ok (.iload 4, 2) := by decide +kernel
theorem dX11_worst_42 : decode cX11_worst 42 = .ok (.invokevirtual 145, 3) := by decide +kernel
theorem dX11_worst_45 : decode cX11_worst 45 = .ok (.istore 5, 2) := by decide +kernel
theorem dX11_worst_47 : decode cX11_worst 47 = .ok (.iload 5, 2) := by decide +kernel
theorem dX11_worst_49 : decode cX11_worst 49 = .ok (.iload_n 3, 1) := by decide +kernel
theorem dX11_worst_50 : decode cX11_worst 50 = .ok (.if_icmp .le 9, 3) := by decide +kernel
theorem dX11_worst_53 : decode cX11_worst 53 = .ok (.iload 5, 2) := by decide +kernel
theorem dX11_worst_55 : decode cX11_worst 55 = .ok (.istore_n 3, 1) := by decide +kernel
theorem dX11_worst_56 : decode cX11_worst 56 = .ok (.iload 4, 2) := by decide +kernel
theorem dX11_worst_58 : decode cX11_worst 58 = .ok (.istore_n 2, 1) := by decide +kernel
theorem dX11_worst_59 : decode cX11_worst 59 = .ok (.iinc 4 1, 3) := by decide +kernel
theorem dX11_worst_62 : decode cX11_worst 62 = .ok (.goto (-42), 3) := by decide +kernel
theorem dX11_worst_65 : decode cX11_worst 65 = .ok (.iload_n 1, 1) := by decide +kernel
theorem dX11_worst_66 : decode cX11_worst 66 = .ok (.ifCond .ne 7, 3) := by decide +kernel
theorem dX11_worst_69 : decode cX11_worst 69 = .ok (.iload_n 2, 1) := by decide +kernel
theorem dX11_worst_70 : decode cX11_worst 70 = .ok (.goto 4, 3) := by decide +kernel
theorem dX11_worst_73 : decode cX11_worst 73 = .ok (.iload_n 3, 1) := by decide +kernel
theorem dX11_worst_74 : decode cX11_worst 74 = .ok (.ireturn, 1) := by decide +kernel
theorem dX11_year_0 : decode cX11_year 0 = .ok (.aload_n 0, 1) := by decide +kernel
theorem dX11_year_1 : decode cX11_year 1 = .ok (.iload_n 1, 1) := by decide +kernel
theorem dX11_year_2 : decode cX11_year 2 = .ok (.invokevirtual 130, 3) := by decide +kernel
theorem dX11_year_5 : decode cX11_year 5 = .ok (.ifCond .eq 24, 3) := by decide +kernel
theorem dX11_year_8 : decode cX11_year 8 = .ok (.iload_n 2, 1) := by decide +kernel
theorem dX11_year_9 : decode cX11_year 9 = .ok (.ifCond .lt 20, 3) := by decide +kernel
theorem dX11_year_12 : decode cX11_year 12 = .ok (.iload_n 2, 1) := by decide +kernel
theorem dX11_year_13 : decode cX11_year 13 = .ok (.bipush 60, 2) := by decide +kernel
theorem dX11_year_15 : decode cX11_year 15 = .ok (.if_icmp .gt 14, 3) := by decide +kernel
theorem dX11_year_18 : decode cX11_year 18 = .ok (.iload_n 3, 1) := by decide +kernel
theorem dX11_year_19 : decode cX11_year 19 = .ok (.iconst 1, 1) := by decide +kernel
theorem dX11_year_20 : decode cX11_year 20 = .ok (.if_icmp .lt 9, 3) := by decide +kernel
theorem dX11_year_23 : decode cX11_year 23 = .ok (.iload_n 3, 1) := by decide +kernel
theorem dX11_year_24 : decode cX11_year 24 = .ok (.bipush 20, 2) := by decide +kernel
theorem dX11_year_26 : decode cX11_year 26 = .ok (.if_icmp .le 5, 3) := by decide +kernel
theorem dX11_year_29 : decode cX11_year 29 = .ok (.iconst (-1), 1) := by decide +kernel
theorem dX11_year_30 : decode cX11_year 30 = .ok (.ireturn, 1) := by decide +kernel
theorem dX11_year_31 : decode cX11_year 31 = .ok (.iconst 0, 1) := by decide +kernel
theorem dX11_year_32 : decode cX11_year 32 = .ok (.istore 4, 2) := by decide +kernel
theorem dX11_year_34 : decode cX11_year 34 = .ok (.iconst 0, 1) := by decide +kernel
theorem dX11_year_35 : decode cX11_year 35 = .ok (.istore 5, 2) := by decide +kernel
theorem dX11_year_37 : decode cX11_year 37 = .ok (.iload 5, 2) := by decide +kernel
theorem dX11_year_39 : decode cX11_year 39 = .ok (.iload_n 3, 1) := by decide +kernel
theorem dX11_year_40 : decode cX11_year 40 = .ok (.if_icmp .ge 40, 3) := by decide +kernel
theorem dX11_year_43 : decode cX11_year 43 = .ok (.aload_n 0, 1) := by decide +kernel
theorem dX11_year_44 : decode cX11_year 44 = .ok (.iload_n 1, 1) := by decide +kernel
theorem dX11_year_45 : decode cX11_year 45 = .ok (.iload_n 2, 1) := by decide +kernel
theorem dX11_year_46 : decode cX11_year 46 = .ok (.aload_n 0, 1) := by decide +kernel
theorem dX11_year_47 : decode cX11_year 47 = .ok (.getfield 23, 3) := by decide +kernel
theorem dX11_year_50 : decode cX11_year 50 = .ok (.getfield 178, 3) := by decide +kernel
theorem dX11_year_53 : decode cX11_year 53 = .ok (.iload 5, 2) := by decide +kernel
theorem dX11_year_55 : decode cX11_year 55 = .ok (.iadd, 1) := by decide +kernel
theorem dX11_year_56 : decode cX11_year 56 = .ok (.invokevirtual 275, 3) := by decide +kernel
theorem dX11_year_59 : decode cX11_year 59 = .ok (.aload_n 0, 1) := by decide +kernel
theorem dX11_year_60 : decode cX11_year 60 = .ok (.getfield 39, 3) := by decide +kernel
theorem dX11_year_63 : decode cX11_year 63 = .ok (.iload_n 1, 1) := by decide +kernel
theorem dX11_year_64 : decode cX11_year 64 = .ok (.iconst 3, 1) := by decide +kernel
theorem dX11_year_65 : decode cX11_year 65 = .ok (.invokevirtual 134, 3) := by decide +kernel
theorem dX11_year_68 : decode cX11_year 68 = .ok (.ifCond .le 6, 3) := by decide +kernel
theorem dX11_year_71 : decode cX11_year 71 = .ok (.iinc 4 1, 3) := by decide +kernel
theorem dX11_year_74 : decode cX11_year 74 = .ok (.iinc 5 1, 3) := by decide +kernel
theorem dX11_year_77 : decode cX11_year 77 = .ok (.goto (-40), 3) := by decide +kernel
theorem dX11_year_80 : decode cX11_year 80 = .ok (.iload 4, 2) := by decide +kernel
theorem dX11_year_82 : decode cX11_year 82 = .ok (.ireturn, 1) := by decide +kernel
theorem dX12_appends_0 : decode cX12_appends 0 = .ok (.iload_n 2, 1) := by decide +kernel
theorem dX12_appends_1 : decode cX12_appends 1 = .ok (.ifCond .ne 7, 3) := by decide +kernel
theorem dX12_appends_4 : decode cX12_appends 4 = .ok (.lload_n 0, 1) := by decide +kernel
theorem dX12_appends_5 : decode cX12_appends 5 = .ok (.goto 16, 3) := by decide +kernel
theorem dX12_appends_8 : decode cX12_appends 8 = .ok (.ldc2_w 187, 3) := by decide +kernel
theorem dX12_appends_11 : decode cX12_appends 11 = .ok (.lload_n 0, 1) := by decide +kernel
theorem dX12_appends_12 : decode cX12_appends 12 = .ok (.lmul, 1) := by decide +kernel
theorem dX12_appends_13 : decode cX12_appends 13 = .ok (.iload_n 2, 1) := by decide +kernel
theorem dX12_appends_14 : decode cX12_appends 14 = .ok (.bipush 97, 2) := by decide +kernel
theorem dX12_appends_16 : decode cX12_appends 16 = .ok (.isub, 1) := by decide +kernel
theorem dX12_appends_17 : decode cX12_appends 17 = .ok (.iconst 1, 1) := by decide +kernel
theorem dX12_appends_18 : decode cX12_appends 18 = .ok (.iadd, 1) := by decide +kernel
theorem dX12_appends_19 : decode cX12_appends 19 = .ok (.i2l, 1) := by decide +kernel
theorem dX12_appends_20 : decode cX12_appends 20 = .ok (.ladd, 1) := by decide +kernel
theorem dX12_appends_21 : decode cX12_appends 21 = .ok (.lreturn, 1) := by decide +kernel
theorem dX12_back_0 : decode cX12_back 0 = .ok (.iload_n 1, 1) := by decide +kernel
theorem dX12_back_1 : decode cX12_back 1 = .ok (.ifCond .lt 11, 3) := by decide +kernel
theorem dX12_back_4 : decode cX12_back 4 = .ok (.iload_n 1, 1) := by decide +kernel
theorem dX12_back_5 : decode cX12_back 5 = .ok (.aload_n 0, 1) := by decide +kernel
theorem dX12_back_6 : decode cX12_back 6 = .ok (.getfield 178, 3) := by decide +kernel
theorem dX12_back_9 : decode cX12_back 9 = .ok (.if_icmp .le 5, 3) := by decide +kernel
theorem dX12_back_12 : decode cX12_back 12 = .ok (.iconst (-1), 1) := by decide +kernel
theorem dX12_back_13 : decode cX12_back 13 = .ok (.ireturn, 1) := by decide +kernel
theorem dX12_back_14 : decode cX12_back 14 = .ok (.aload_n 0, 1) := by decide +kernel
theorem dX12_back_15 : decode cX12_back 15 = .ok (.dup, 1) := by decide +kernel
theorem dX12_back_16 : decode cX12_back 16 = .ok (.getfield 178, 3) := by decide +kernel
theorem dX12_back_19 : decode cX12_back 19 = .ok (.iload_n 1, 1) := by decide +kernel
theorem dX12_back_20 : decode cX12_back 20 = .ok (.isub, 1) := by decide +kernel
theorem dX12_back_21 : decode cX12_back 21 = .ok (.putfield 178, 3) := by decide +kernel
theorem dX12_back_24 : decode cX12_back 24 = .ok (.aload_n 0, 1) := by decide +kernel
theorem dX12_back_25 : decode cX12_back 25 = .ok (.getfield 178, 3) := by decide +kernel
theorem dX12_back_28 : decode cX12_back 28 = .ok (.ireturn, 1) := by decide +kernel
theorem dX12_many_0 : decode cX12_many 0 = .ok (.aload_n 0, 1) := by decide +kernel
theorem dX12_many_1 : decode cX12_many 1 = .ok (.getfield 43, 3) := by decide +kernel
theorem dX12_many_4 : decode cX12_many 4 = .ok (.aload_n 0, 1) := by decide +kernel
theorem dX12_many_5 : decode cX12_many 5 = .ok (.getfield 245, 3) := by decide +kernel
theorem dX12_many_8 : decode cX12_many 8 = .ok (.iaload, 1) := by decide +kernel
theorem dX12_many_9 : decode cX12_many 9 = .ok (.ireturn, 1) := by decide +kernel
theorem dX12_begins_0 : decode cX12_begins 0 = .ok (.iconst 0, 1) := by decide +kernel
theorem dX12_begins_1 : decode cX12_begins 1 = .ok (.istore_n 1, 1) := by decide +kernel
theorem dX12_begins_2 : decode cX12_begins 2 = .ok (.iload_n 1, 1) := by decide +kernel
theorem dX12_begins_3 : decode cX12_begins 3 = .ok (.bipush 39, 2) := by decide +kernel
theorem dX12_begins_5 : decode cX12_begins 5 = .ok (.if_icmp .ge 16, 3) := by decide +kernel
theorem dX12_begins_8 : decode cX12_begins 8 = .ok (.aload_n 0, 1) := by decide +kernel
theorem dX12_begins_9 : decode cX12_begins 9 = .ok (.getfield 113, 3) := by decide +kernel
theorem dX12_begins_12 : decode cX12_begins 12 = .ok (.iload_n 1, 1) := by decide +kernel
theorem dX12_begins_13 : decode cX12_begins 13 = .ok (.iconst 0, 1) := by decide +kernel
theorem dX12_begins_14 : decode cX12_begins 14 = .ok (.iastore, 1) := by decide +kernel
theorem dX12_begins_15 : decode cX12_begins 15 = .ok (.iinc 1 1, 3) := by decide +kernel
theorem dX12_begins_18 : decode cX12_begins 18 = .ok (.goto (-16), 3) := by decide +kernel
theorem dX12_begins_21 : decode cX12_begins 21 = .ok (.iconst 0, 1) := by decide +kernel
theorem dX12_begins_22 : decode cX12_begins 22 = .ok (.istore_n 1, 1) := by decide +kernel
theorem dX12_begins_23 : decode cX12_begins 23 = .ok (.iload_n 1, 1) := by decide +kernel
theorem dX12_begins_24 : decode cX12_begins 24 = .ok (.aload_n 0, 1) := by decide +kernel
theorem dX12_begins_25 : decode cX12_begins 25 = .ok (.invokevirtual 309, 3) := by decide +kernel
theorem dX12_begins_28 : decode cX12_begins 28 = .ok (.if_icmp .ge 55, 3) := by decide +kernel
theorem dX12_begins_31 : decode cX12_begins 31 = .ok (.aload_n 0, 1) := by decide +kernel
theorem dX12_begins_32 : decode cX12_begins 32 = .ok (.getfield 113, 3) := by decide +kernel
theorem dX12_begins_35 : decode cX12_begins 35 = .ok (.bipush 6, 2) := by decide +kernel
theorem dX12_begins_37 : decode cX12_begins 37 = .ok (.iload_n 1, 1) := by decide +kernel
theorem dX12_begins_38 : decode cX12_begins 38 = .ok (.iadd, 1) := by decide +kernel
theorem dX12_begins_39 : decode cX12_begins 39 = .ok (.aload_n 0, 1) := by decide +kernel
theorem dX12_begins_40 : decode cX12_begins 40 = .ok (.getfield 49, 3) := by decide +kernel
theorem dX12_begins_43 : decode cX12_begins 43 = .ok (.bipush 6, 2) := by decide +kernel
theorem dX12_begins_45 : decode cX12_begins 45 = .ok (.aload_n 0, 1) := by decide +kernel
theorem dX12_begins_46 : decode cX12_begins 46 = .ok (.getfield 245, 3) := by decide +kernel
theorem dX12_begins_49 : decode cX12_begins 49 = .ok (.imul, 1) := by decide +kernel
theorem dX12_begins_50 : decode cX12_begins 50 = .ok (.iload_n 1, 1) := by decide +kernel
theorem dX12_begins_51 : decode cX12_begins 51 = .ok (.iadd, 1) := by decide +kernel
theorem dX12_begins_52 : decode cX12_begins 52 = .ok (.iaload, 1) := by decide +kernel
theorem dX12_begins_53 : decode cX12_begins 53 = .ok (.iastore, 1) := by decide +kernel
theorem dX12_begins_54 : decode cX12_begins 54 = .ok (.aload_n 0, 1) := by decide +kernel
theorem dX12_begins_55 : decode cX12_begins 55 = .ok (.getfield 113, 3) := by decide +kernel
theorem dX12_begins_58 : decode cX12_begins 58 = .ok (.bipush 12, 2) := by decide +kernel
theorem dX12_begins_60 : decode cX12_begins 60 = .ok (.iload_n 1, 1) := by decide +kernel
theorem dX12_begins_61 : decode cX12_begins 61 = .ok (.iadd, 1) := by decide +kernel
theorem dX12_begins_62 : decode cX12_begins 62 = .ok (.aload_n 0, 1) := by decide +kernel
theorem dX12_begins_63 : decode cX12_begins 63 = .ok (.getfield 52, 3) := by decide +kernel
theorem dX12_begins_66 : decode cX12_begins 66 = .ok (.bipush 6, 2) := by decide +kernel
theorem dX12_begins_68 : decode cX12_begins 68 = .ok (.aload_n 0, 1) := by decide +kernel
theorem dX12_begins_69 : decode cX12_begins 69 = .ok (.getfield 245, 3) := by decide +kernel
theorem dX12_begins_72 : decode cX12_begins 72 = .ok (.imul, 1) := by decide +kernel
theorem dX12_begins_73 : decode cX12_begins 73 = .ok (.iload_n 1, 1) := by decide +kernel
theorem dX12_begins_74 : decode cX12_begins 74 = .ok (.iadd, 1) := by decide +kernel
theorem dX12_begins_75 : decode cX12_begins 75 = .ok (.iaload, 1) := by decide +kernel
theorem dX12_begins_76 : decode cX12_begins 76 = .ok (.iastore, 1) := by decide +kernel
theorem dX12_begins_77 : decode cX12_begins 77 = .ok (.iinc 1 1, 3) := by decide +kernel
theorem dX12_begins_80 : decode cX12_begins 80 = .ok (.goto (-57), 3) := by decide +kernel
theorem dX12_begins_83 : decode cX12_begins 83 = .ok (.aload_n 0, 1) := by decide +kernel
theorem dX12_begins_84 : decode cX12_begins 84 = .ok (.getfield 113, 3) := by decide +kernel
theorem dX12_begins_87 : decode cX12_begins 87 = .ok (.bipush 37, 2) := by decide +kernel
theorem dX12_begins_89 : decode cX12_begins 89 = .ok (.aload_n 0, 1) := by decide +kernel
theorem dX12_begins_90 : decode cX12_begins 90 = .ok (.getfield 61, 3) := by decide +kernel
theorem dX12_begins_93 : decode cX12_begins 93 = .ok (.aload_n 0, 1) := by decide +kernel
theorem dX12_begins_94 : decode cX12_begins 94 = .ok (.getfield 245, 3) := by decide +kernel
theorem dX12_begins_97 : decode cX12_begins 97 = .ok (.iaload, 1) := by decide +kernel
theorem dX12_begins_98 : decode cX12_begins 98 = .ok (.iastore, 1) := by decide +kernel
theorem dX12_begins_99 : decode cX12_begins 99 = .ok (.aload_n 0, 1) := by decide +kernel
theorem dX12_begins_100 : decode cX12_begins 100 = .ok (.aload_n 0, 1) := by decide +kernel
theorem dX12_begins_101 : decode cX12_begins 101 = .ok (.getfield 70, 3) := by decide +kernel
theorem dX12_begins_104 : decode cX12_begins 104 = .ok (.aload_n 0, 1) := by decide +kernel
theorem dX12_begins_105 : decode cX12_begins 105 = .ok (.getfield 245, 3) := by decide +kernel
theorem dX12_begins_108 : decode cX12_begins 108 = .ok (.iaload, 1) := by decide +kernel
theorem dX12_begins_109 : decode cX12_begins 109 = .ok (.putfield 317, 3) := by decide +kernel
theorem dX12_begins_112 : decode cX12_begins 112 = .ok (.aload_n 0, 1) := by decide +kernel
theorem dX12_begins_113 : decode cX12_begins 113 = .ok (.iconst 0, 1) := by decide +kernel
theorem dX12_begins_114 : decode cX12_begins 114 = .ok (.putfield 320, 3) := by decide +kernel
theorem dX12_begins_117 : decode cX12_begins 117 = .ok (.return_, 1) := by decide +kernel
theorem dX12_copies_0 : decode cX12_copies 0 = .ok (.iconst 0, 1) := by decide +kernel
theorem dX12_copies_1 : decode cX12_copies 1 = .ok (.istore_n 1, 1) := by decide +kernel
theorem dX12_copies_2 : decode cX12_copies 2 = .ok (.iload_n 1, 1) := by decide +kernel
theorem dX12_copies_3 : decode cX12_copies 3 = .ok (.bipush 39, 2) := by decide +kernel
theorem dX12_copies_5 : decode cX12_copies 5 = .ok (.if_icmp .ge 21, 3) := by decide +kernel
theorem dX12_copies_8 : decode cX12_copies 8 = .ok (.aload_n 0, 1) := by decide +kernel
theorem dX12_copies_9 : decode cX12_copies 9 = .ok (.getfield 113, 3) := by decide +kernel
theorem dX12_copies_12 : decode cX12_copies 12 = .ok (.iload_n 1, 1) := by decide +kernel
theorem dX12_copies_13 : decode cX12_copies 13 = .ok (.aload_n 0, 1) := by decide +kernel
theorem dX12_copies_14 : decode cX12_copies 14 = .ok (.getfield 110, 3) := by decide +kernel
theorem dX12_copies_17 : decode cX12_copies 17 = .ok (.iload_n 1, 1) := by decide +kernel
theorem dX12_copies_18 : decode cX12_copies 18 = .ok (.iaload, 1) := by decide +kernel
theorem dX12_copies_19 : decode cX12_copies 19 = .ok (.iastore, 1) := by decide +kernel
theorem dX12_copies_20 : decode cX12_copies 20 = .ok (.iinc 1 1, 3) := by decide +kernel
theorem dX12_copies_23 : decode cX12_copies 23 = .ok (.goto (-21), 3) := by decide +kernel
theorem dX12_copies_26 : decode cX12_copies 26 = .ok (.aload_n 0, 1) := by decide +kernel
theorem dX12_copies_27 : decode cX12_copies 27 = .ok (.aload_n 0, 1) := by decide +kernel
theorem dX12_copies_28 : decode cX12_copies 28 = .ok (.getfield 70, 3) := by decide +kernel
theorem dX12_copies_31 : decode cX12_copies 31 = .ok (.aload_n 0, 1) := by decide +kernel
theorem dX12_copies_32 : decode cX12_copies 32 = .ok (.getfield 245, 3) := by decide +kernel
theorem dX12_copies_35 : decode cX12_copies 35 = .ok (.iaload, 1) := by decide +kernel
theorem dX12_copies_36 : decode cX12_copies 36 = .ok (.putfield 317, 3) := by decide +kernel
theorem dX12_copies_39 : decode cX12_copies 39 = .ok (.aload_n 0, 1) := by decide +kernel
theorem dX12_copies_40 : decode cX12_copies 40 = .ok (.iconst 0, 1) := by decide +kernel
theorem dX12_copies_41 : decode cX12_copies 41 = .ok (.putfield 320, 3) := by decide +kernel
theorem dX12_copies_44 : decode cX12_copies 44 = .ok (.return_, 1) := by decide +kernel
theorem dX12_copiesStill_0 : decode cX12_copiesStill 0 = .ok (.aload_n 0, 1) := by decide +kernel
theorem dX12_copiesStill_1 : decode cX12_copiesStill 1 = .ok (.invokevirtual 323, 3) := by decide +kernel
theorem dX12_copiesStill_4 : decode cX12_copiesStill 4 = .ok (.aload_n 0, 1) := by decide +kernel
theorem dX12_copiesStill_5 : decode cX12_copiesStill 5 = .ok (.iconst 1, 1) := by decide +kernel
theorem dX12_copiesStill_6 : decode cX12_copiesStill 6 = .ok (.putfield 320, 3) := by decide +kernel
theorem dX12_copiesStill_9 : decode cX12_copiesStill 9 = .ok (.return_, 1) := by decide +kernel
theorem dX12_panesAt_0 : decode cX12_panesAt 0 = .ok (.aload_n 0, 1) := by decide +kernel
theorem dX12_panesAt_1 : decode cX12_panesAt 1 = .ok (.getfield 46, 3) := by decide +kernel
theorem dX12_panesAt_4 : decode cX12_panesAt 4 = .ok (.bipush 6, 2) := by decide +kernel
theorem dX12_panesAt_6 : decode cX12_panesAt 6 = .ok (.aload_n 0, 1) := by decide +kernel
theorem dX12_panesAt_7 : decode cX12_panesAt 7 = .ok (.getfield 245, 3) := by decide +kernel
theorem dX12_panesAt_10 : decode cX12_panesAt 10 = .ok (.imul, 1) := by decide +kernel
theorem dX12_panesAt_11 : decode cX12_panesAt 11 = .ok (.iload_n 1, 1) := by decide +kernel
theorem dX12_panesAt_12 : decode cX12_panesAt 12 = .ok (.iadd, 1) := by decide +kernel
theorem dX12_panesAt_13 : decode cX12_panesAt 13 = .ok (.iaload, 1) := by decide +kernel
theorem dX12_panesAt_14 : decode cX12_panesAt 14 = .ok (.ireturn, 1) := by decide +kernel
theorem dX12_termOf_0 : decode cX12_termOf 0 = .ok (.iconst 0, 1) := by decide +kernel
theorem dX12_termOf_1 : decode cX12_termOf 1 = .ok (.istore_n 3, 1) := by decide +kernel
theorem dX12_termOf_2 : decode cX12_termOf 2 = .ok (.iload_n 1, 1) := by decide +kernel
theorem dX12_termOf_3 : decode cX12_termOf 3 = .ok (.istore 4, 2) := by decide +kernel
theorem dX12_termOf_5 : decode cX12_termOf 5 = .ok (.iload 4, 2) := by decide +kernel
theorem dX12_termOf_7 : decode cX12_termOf 7 = .ok (.iload_n 2, 1) := by decide +kernel
theorem dX12_termOf_8 : decode cX12_termOf 8 = .ok (.if_icmp .ge 157, 3) := by decide +kernel
theorem dX12_termOf_11 : decode cX12_termOf 11 = .ok (.aload_n 0, 1) := by decide +kernel
theorem dX12_termOf_12 : decode cX12_termOf 12 = .ok (.getfield 95, 3) := by decide +kernel
theorem dX12_termOf_15 : decode cX12_termOf 15 = .ok (.iload 4, 2) := by decide +kernel
theorem dX12_termOf_17 : decode cX12_termOf 17 = .ok (.iaload, 1) := by decide +kernel
theorem dX12_termOf_18 : decode cX12_termOf 18 = .ok (.istore 5, 2) := by decide +kernel
theorem dX12_termOf_20 : decode cX12_termOf 20 = .ok (.iload 5, 2) := by decide +kernel
theorem dX12_termOf_22 : decode cX12_termOf 22 = .ok (.iconst 2, 1) := by decide +kernel
theorem dX12_termOf_23 : decode cX12_termOf 23 = .ok (.if_icmp .ge 42, 3) := by decide +kernel
theorem dX12_termOf_26 : decode cX12_termOf 26 = .ok (.aload_n 0, 1) := by decide +kernel
theorem dX12_termOf_27 : decode cX12_termOf 27 = .ok (.getfield 107, 3) := by decide +kernel
theorem dX12_termOf_30 : decode cX12_termOf 30 = .ok (.iload_n 3, 1) := by decide +kernel
theorem dX12_termOf_31 : decode cX12_termOf 31 = .ok (.iload 5, 2) := by decide +kernel
theorem dX12_termOf_33 : decode cX12_termOf 33 = .ok (.ifCond .ne 13, 3) := by decide +kernel
theorem dX12_termOf_36 : decode cX12_termOf 36 = .ok (.aload_n 0, 1) := by decide +kernel
theorem dX12_termOf_37 : decode cX12_termOf 37 = .ok (.getfield 98, 3) := by decide +kernel
theorem dX12_termOf_40 : decode cX12_termOf 40 = .ok (.iload 4, 2) := by decide +kernel
theorem dX12_termOf_42 : decode cX12_termOf 42 = .ok (.iaload, 1) := by decide +kernel
theorem dX12_termOf_43 : decode cX12_termOf 43 = .ok (.goto 15, 3) := by decide +kernel
theorem dX12_termOf_46 : decode cX12_termOf 46 = .ok (.aload_n 0, 1) := by decide +kernel
theorem dX12_termOf_47 : decode cX12_termOf 47 = .ok (.getfield 104, 3) := by decide +kernel
theorem dX12_termOf_50 : decode cX12_termOf 50 = .ok (.aload_n 0, 1) := by decide +kernel
theorem dX12_termOf_51 : decode cX12_termOf 51 = .ok (.getfield 98, 3) := by decide +kernel
theorem dX12_termOf_54 : decode cX12_termOf 54 = .ok (.iload 4, 2) := by decide +kernel
theorem dX12_termOf_56 : decode cX12_termOf 56 = .ok (.iaload, 1) := by decide +kernel
theorem dX12_termOf_57 : decode cX12_termOf 57 = .ok (.iaload, 1) := by decide +kernel
theorem dX12_termOf_58 : decode cX12_termOf 58 = .ok (.iastore, 1) := by decide +kernel
theorem dX12_termOf_59 : decode cX12_termOf 59 = .ok (.iinc 3 1, 3) := by decide +kernel
theorem dX12_termOf_62 : decode cX12_termOf 62 = .ok (.goto 97, 3) := by decide +kernel
theorem dX12_termOf_65 : decode cX12_termOf 65 = .ok (.iinc 3 (-1), 3) := by decide +kernel
theorem dX12_termOf_68 : decode cX12_termOf 68 = .ok (.aload_n 0, 1) := by decide +kernel
theorem dX12_termOf_69 : decode cX12_termOf 69 = .ok (.getfield 107, 3) := by decide +kernel
theorem dX12_termOf_72 : decode cX12_termOf 72 = .ok (.iload_n 3, 1) := by decide +kernel
theorem dX12_termOf_73 : decode cX12_termOf 73 = .ok (.iconst 1, 1) := by decide +kernel
theorem dX12_termOf_74 : decode cX12_termOf 74 = .ok (.isub, 1) := by decide +kernel
theorem dX12_termOf_75 : decode cX12_termOf 75 = .ok (.iaload, 1) := by decide +kernel
theorem dX12_termOf_76 : decode cX12_termOf 76 = .ok (.istore 6, 2) := by decide +kernel
theorem dX12_termOf_78 : decode cX12_termOf 78 = .ok (.aload_n 0, 1) := by decide +kernel
theorem dX12_termOf_79 : decode cX12_termOf 79 = .ok (.getfield 107, 3) := by decide +kernel
theorem dX12_termOf_82 : decode cX12_termOf 82 = .ok (.iload_n 3, 1) := by decide +kernel
theorem dX12_termOf_83 : decode cX12_termOf 83 = .ok (.iaload, 1) := by decide +kernel
theorem dX12_termOf_84 : decode cX12_termOf 84 = .ok (.istore 7, 2) := by decide +kernel
theorem dX12_termOf_86 : decode cX12_termOf 86 = .ok (.iload 5, 2) := by decide +kernel
theorem dX12_termOf_88 : decode cX12_termOf 88 = .ok (.iconst 5, 1) := by decide +kernel
theorem dX12_termOf_89 : decode cX12_termOf 89 = .ok (.if_icmp .ne 15, 3) := by decide +kernel
theorem dX12_termOf_92 : decode cX12_termOf 92 = .ok (.iload 7, 2) := by decide +kernel
theorem dX12_termOf_94 : decode cX12_termOf 94 = .ok (.ifCond .ne 10, 3) := by decide +kernel
theorem dX12_termOf_97 : decode cX12_termOf 97 = .ok (.aload_n 0, 1) := by decide +kernel
theorem dX12_termOf_98 : decode cX12_termOf 98 = .ok (.iconst 1, 1) := by decide +kernel
theorem dX12_termOf_99 : decode cX12_termOf 99 = .ok (.putfield 305, 3) := by decide +kernel
theorem dX12_termOf_102 : decode cX12_termOf 102 = .ok (.iconst 0, 1) := by decide +kernel
theorem dX12_termOf_103 : decode cX12_termOf 103 = .ok (.ireturn, 1) := by decide +kernel
theorem dX12_termOf_104 : decode cX12_termOf 104 = .ok (.aload_n 0, 1) := by decide +kernel
theorem dX12_termOf_105 : decode cX12_termOf 105 = .ok (.getfield 107, 3) := by decide +kernel
theorem dX12_termOf_108 : decode cX12_termOf 108 = .ok (.iload_n 3, 1) := by decide +kernel
theorem dX12_termOf_109 : decode cX12_termOf 109 = .ok (.iconst 1, 1) := by decide +kernel
theorem dX12_termOf_110 : decode cX12_termOf 110 = .ok (.isub, 1) := by decide +kernel
theorem dX12_termOf_111 : decode cX12_termOf 111 = .ok (.iload 5, 2) := by decide +kernel
theorem dX12_termOf_113 : decode cX12_termOf 113 = .ok (.iconst 2, 1) := by decide +kernel
theorem dX12_termOf_114 : decode cX12_termOf 114 = .ok (.if_icmp .ne 11, 3) := by decide +kernel
theorem dX12_termOf_117 : decode cX12_termOf 117 = .ok (.iload 6, 2) := by decide +kernel
theorem dX12_termOf_119 : decode cX12_termOf 119 = .ok (.iload 7, 2) := by decide +kernel
theorem dX12_termOf_121 : decode cX12_termOf 121 = .ok (.iadd, 1) := by decide +kernel
theorem dX12_termOf_122 : decode cX12_termOf 122 = .ok (.goto 36, 3) := by decide +kernel
theorem dX12_termOf_125 : decode cX12_termOf 125 = .ok (.iload 5, 2) := by decide +kernel
theorem dX12_termOf_127 : decode cX12_termOf 127 = .ok (.iconst 3, 1) := by decide +kernel
theorem dX12_termOf_128 : decode cX12_termOf 128 = .ok (.if_icmp .ne 11, 3) := by decide +kernel
theorem dX12_termOf_131 : decode cX12_termOf 131 = .ok (.iload 6, 2) := by decide +kernel
theorem dX12_termOf_133 : decode cX12_termOf 133 = .ok (.iload 7, 2) := by decide +kernel
theorem dX12_termOf_135 : decode cX12_termOf 135 = .ok (.isub, 1) := by decide +kernel
theorem dX12_termOf_136 : decode cX12_termOf 136 = .ok (.goto 22, 3) := by decide +kernel
theorem dX12_termOf_139 : decode cX12_termOf 139 = .ok (.iload 5, 2) := by decide +kernel
theorem dX12_termOf_141 : decode cX12_termOf 141 = .ok (.iconst 4, 1) := by decide +kernel
theorem dX12_termOf_142 : decode cX12_termOf 142 = .ok (.if_icmp .ne 11, 3) := by decide +kernel
theorem dX12_termOf_145 : decode cX12_termOf 145 = .ok (.iload 6, 2) := by decide +kernel
theorem dX12_termOf_147 : decode cX12_termOf 147 = .ok (.iload 7, 2) := by decide +kernel
theorem dX12_termOf_149 : decode cX12_termOf 149 = .ok (.imul, 1) := by decide +kernel
theorem dX12_termOf_150 : decode cX12_termOf 150 = .ok (.goto 8, 3) := by decide +kernel
theorem dX12_termOf_153 : decode cX12_termOf 153 = .ok (.iload 6, 2) := by decide +kernel
theorem dX12_termOf_155 : decode cX12_termOf 155 = .ok (.iload 7, 2) := by decide +kernel
theorem dX12_termOf_157 : decode cX12_termOf 157 = .ok (.idiv, 1) := by decide +kernel
theorem dX12_termOf_158 : decode cX12_termOf 158 = .ok (.iastore, 1) := by decide +kernel
theorem dX12_termOf_159 : decode cX12_termOf 159 = .ok (.iinc 4 1, 3) := by decide +kernel
theorem dX12_termOf_162 : decode cX12_termOf 162 = .ok (.goto (-157), 3) := by decide +kernel
theorem dX12_termOf_165 : decode cX12_termOf 165 = .ok (.aload_n 0, 1) := by decide +kernel
theorem dX12_termOf_166 : decode cX12_termOf 166 = .ok (.getfield 107, 3) := by decide +kernel
theorem dX12_termOf_169 : decode cX12_termOf 169 = .ok (.iconst 0, 1) := by decide +kernel
theorem dX12_termOf_170 : decode cX12_termOf 170 = .ok (.iaload, 1) := by decide +kernel
theorem dX12_termOf_171 : decode cX12_termOf 171 = .ok (.ireturn, 1) := by decide +kernel
theorem dX12_lawTells_0 : decode cX12_lawTells 0 = .ok (.iconst 4, 1) := by decide +kernel
theorem dX12_lawTells_1 : decode cX12_lawTells 1 = .ok (.aload_n 0, 1) := by decide +kernel
theorem dX12_lawTells_2 : decode cX12_lawTells 2 = .ok (.getfield 245, 3) := by decide +kernel
theorem dX12_lawTells_5 : decode cX12_lawTells 5 = .ok (.imul, 1) := by decide +kernel
theorem dX12_lawTells_6 : decode cX12_lawTells 6 = .ok (.iload_n 1, 1) := by decide +kernel
theorem dX12_lawTells_7 : decode cX12_lawTells 7 = .ok (.iadd, 1) := by decide +kernel
theorem dX12_lawTells_8 : decode cX12_lawTells 8 = .ok (.istore_n 3, 1) := by decide +kernel
theorem dX12_lawTells_9 : decode cX12_lawTells 9 = .ok (.aload_n 0, 1) := by decide +kernel
theorem dX12_lawTells_10 : decode cX12_lawTells 10 = .ok (.getfield 73, 3) := by decide +kernel
theorem dX12_lawTells_13 : decode cX12_lawTells 13 = .ok (.iload_n 3, 1) := by decide +kernel
theorem dX12_lawTells_14 : decode cX12_lawTells 14 = .ok (.iaload, 1) := by decide +kernel
theorem dX12_lawTells_15 : decode cX12_lawTells 15 = .ok (.aload_n 0, 1) := by decide +kernel
theorem dX12_lawTells_16 : decode cX12_lawTells 16 = .ok (.getfield 76, 3) := by decide +kernel
theorem dX12_lawTells_19 : decode cX12_lawTells 19 = .ok (.iload_n 3, 1) := by decide +kernel
theorem dX12_lawTells_20 : decode cX12_lawTells 20 = .ok (.iaload, 1) := by decide +kernel
theorem dX12_lawTells_21 : decode cX12_lawTells 21 = .ok (.if_icmp .ne 5, 3) := by decide +kernel
theorem dX12_lawTells_24 : decode cX12_lawTells 24 = .ok (.iload_n 2, 1) := by decide +kernel
theorem dX12_lawTells_25 : decode cX12_lawTells 25 = .ok (.ireturn, 1) := by decide +kernel
theorem dX12_lawTells_26 : decode cX12_lawTells 26 = .ok (.aload_n 0, 1) := by decide +kernel
theorem dX12_lawTells_27 : decode cX12_lawTells 27 = .ok (.iconst 0, 1) := by decide +kernel
theorem dX12_lawTells_28 : decode cX12_lawTells 28 = .ok (.putfield 305, 3) := by decide +kernel
theorem dX12_lawTells_31 : decode cX12_lawTells 31 = .ok (.aload_n 0, 1) := by decide +kernel
theorem dX12_lawTells_32 : decode cX12_lawTells 32 = .ok (.getfield 73, 3) := by decide +kernel
theorem dX12_lawTells_35 : decode cX12_lawTells 35 = .ok (.iload_n 3, 1) := by decide +kernel
theorem dX12_lawTells_36 : decode cX12_lawTells 36 = .ok (.iaload, 1) := by decide +kernel
theorem dX12_lawTells_37 : decode cX12_lawTells 37 = .ok (.istore 4, 2) := by decide +kernel
theorem dX12_lawTells_39 : decode cX12_lawTells 39 = .ok (.iload 4, 2) := by decide +kernel
theorem dX12_lawTells_41 : decode cX12_lawTells 41 = .ok (.aload_n 0, 1) := by decide +kernel
theorem dX12_lawTells_42 : decode cX12_lawTells 42 = .ok (.getfield 76, 3) := by decide +kernel
theorem dX12_lawTells_45 : decode cX12_lawTells 45 = .ok (.iload_n 3, 1) := by decide +kernel
theorem dX12_lawTells_46 : decode cX12_lawTells 46 = .ok (.iaload, 1) := by decide +kernel
theorem dX12_lawTells_47 : decode cX12_lawTells 47 = .ok (.if_icmp .ge 112, 3) := by decide +kernel
theorem dX12_lawTells_50 : decode cX12_lawTells 50 = .ok (.aload_n 0, 1) := by decide +kernel
theorem dX12_lawTells_51 : decode cX12_lawTells 51 = .ok (.getfield 79, 3) := by decide +kernel
theorem dX12_lawTells_54 : decode cX12_lawTells 54 = .ok (.iload 4, 2) := by decide +kernel
theorem dX12_lawTells_56 : decode cX12_lawTells 56 = .ok (.baload, 1) := by decide +kernel
theorem dX12_lawTells_57 : decode cX12_lawTells 57 = .ok (.ifCond .eq 62, 3) := by decide +kernel
theorem dX12_lawTells_60 : decode cX12_lawTells 60 = .ok (.aload_n 0, 1) := by decide +kernel
theorem dX12_lawTells_61 : decode cX12_lawTells 61 = .ok (.aload_n 0, 1) := by decide +kernel
theorem dX12_lawTells_62 : decode cX12_lawTells 62 = .ok (.getfield 83, 3) := by decide +kernel
theorem dX12_lawTells_65 : decode cX12_lawTells 65 = .ok (.iload 4, 2) := by decide +kernel
theorem dX12_lawTells_67 : decode cX12_lawTells 67 = .ok (.iaload, 1) := by decide +kernel
theorem dX12_lawTells_68 : decode cX12_lawTells 68 = .ok (.aload_n 0, 1) := by decide +kernel
theorem dX12_lawTells_69 : decode cX12_lawTells 69 = .ok (.getfield 86, 3) := by decide +kernel
theorem dX12_lawTells_72 : decode cX12_lawTells 72 = .ok (.iload 4, 2) := by decide +kernel
theorem dX12_lawTells_74 : decode cX12_lawTells 74 = .ok (.iaload, 1) := by decide +kernel
theorem dX12_lawTells_75 : decode cX12_lawTells 75 = .ok (.invokevirtual 333, 3) := by decide +kernel
theorem dX12_lawTells_78 : decode cX12_lawTells 78 = .ok (.istore 5, 2) := by decide +kernel
theorem dX12_lawTells_80 : decode cX12_lawTells 80 = .ok (.aload_n 0, 1) := by decide +kernel
theorem dX12_lawTells_81 : decode cX12_lawTells 81 = .ok (.aload_n 0, 1) := by decide +kernel
theorem dX12_lawTells_82 : decode cX12_lawTells 82 = .ok (.getfield 86, 3) := by decide +kernel
theorem dX12_lawTells_85 : decode cX12_lawTells 85 = .ok (.iload 4, 2) := by decide +kernel
theorem dX12_lawTells_87 : decode cX12_lawTells 87 = .ok (.iaload, 1) := by decide +kernel
theorem dX12_lawTells_88 : decode cX12_lawTells 88 = .ok (.aload_n 0, 1) := by decide +kernel
theorem dX12_lawTells_89 : decode cX12_lawTells 89 = .ok (.getfield 89, 3) := by decide +kernel
theorem dX12_lawTells_92 : decode cX12_lawTells 92 = .ok (.iload 4, 2) := by decide +kernel
theorem dX12_lawTells_94 : decode cX12_lawTells 94 = .ok (.iaload, 1) := by decide +kernel
theorem dX12_lawTells_95 : decode cX12_lawTells 95 = .ok (.invokevirtual 333, 3) := by decide +kernel
theorem dX12_lawTells_98 : decode cX12_lawTells 98 = .ok (.istore 6, 2) := by decide +kernel
theorem dX12_lawTells_100 : decode cX12_lawTells 100 = .ok (.aload_n 0, 1) := by decide +kernel
theorem dX12_lawTells_101 : decode cX12_lawTells 101 = .ok (.getfield 305, 3) := by decide +kernel
theorem dX12_lawTells_104 : decode cX12_lawTells 104 = .ok (.ifCond .eq 5, 3) := by decide +kernel
theorem dX12_lawTells_107 : decode cX12_lawTells 107 = .ok (.iconst 0, 1) := by decide +kernel
theorem dX12_lawTells_108 : decode cX12_lawTells 108 = .ok (.ireturn, 1) := by decide +kernel
theorem dX12_lawTells_109 : decode cX12_lawTells 109 = .ok (.iload 5, 2) := by decide +kernel
theorem dX12_lawTells_111 : decode cX12_lawTells 111 = .ok (.iload 6, 2) := by decide +kernel
theorem dX12_lawTells_113 : decode cX12_lawTells 113 = .ok (.if_icmp .lt 6, 3) := by decide +kernel
theorem dX12_lawTells_116 : decode cX12_lawTells 116 = .ok (.goto 37, 3) := by decide +kernel
theorem dX12_lawTells_119 : decode cX12_lawTells 119 = .ok (.aload_n 0, 1) := by decide +kernel
theorem dX12_lawTells_120 : decode cX12_lawTells 120 = .ok (.aload_n 0, 1) := by decide +kernel
theorem dX12_lawTells_121 : decode cX12_lawTells 121 = .ok (.getfield 89, 3) := by decide +kernel
theorem dX12_lawTells_124 : decode cX12_lawTells 124 = .ok (.iload 4, 2) := by decide +kernel
theorem dX12_lawTells_126 : decode cX12_lawTells 126 = .ok (.iaload, 1) := by decide +kernel
theorem dX12_lawTells_127 : decode cX12_lawTells 127 = .ok (.aload_n 0, 1) := by decide +kernel
theorem dX12_lawTells_128 : decode cX12_lawTells 128 = .ok (.getfield 92, 3) := by decide +kernel
theorem dX12_lawTells_131 : decode cX12_lawTells 131 = .ok (.iload 4, 2) := by decide +kernel
theorem dX12_lawTells_133 : decode cX12_lawTells 133 = .ok (.iaload, 1) := by decide +kernel
theorem dX12_lawTells_134 : decode cX12_lawTells 134 = .ok (.invokevirtual 333, 3) := by decide +kernel
theorem dX12_lawTells_137 : decode cX12_lawTells 137 = .ok (.istore 5, 2) := by decide +kernel
theorem dX12_lawTells_139 : decode cX12_lawTells 139 = .ok (.aload_n 0, 1) := by decide +kernel
theorem dX12_lawTells_140 : decode cX12_lawTells 140 = .ok (.getfield 305, 3) := by decide +kernel
theorem dX12_lawTells_143 : decode cX12_lawTells 143 = .ok (.ifCond .eq 7, 3) := by decide +kernel
theorem dX12_lawTells_146 : decode cX12_lawTells 146 = .ok (.iconst 0, 1) := by decide +kernel
theorem dX12_lawTells_147 : decode cX12_lawTells 147 = .ok (.goto 5, 3) := by decide +kernel
theorem dX12_lawTells_150 : decode cX12_lawTells 150 = .ok (.iload 5, 2) := by decide +kernel
theorem dX12_lawTells_152 : decode cX12_lawTells 152 = .ok (.ireturn, 1) := by decide +kernel
theorem dX12_lawTells_153 : decode cX12_lawTells 153 = .ok (.iinc 4 1, 3) := by decide +kernel
theorem dX12_lawTells_156 : decode cX12_lawTells 156 = .ok (.goto (-117), 3) := by decide +kernel
theorem dX12_lawTells_159 : decode cX12_lawTells 159 = .ok (.iconst 0, 1) := by decide +kernel
theorem dX12_lawTells_160 : decode cX12_lawTells 160 = .ok (.ireturn, 1) := by decide +kernel
theorem dX12_within_0 : decode cX12_within 0 = .ok (.iload_n 0, 1) := by decide +kernel
theorem dX12_within_1 : decode cX12_within 1 = .ok (.iload_n 1, 1) := by decide +kernel
theorem dX12_within_2 : decode cX12_within 2 = .ok (.if_icmp .ge 7, 3) := by decide +kernel
theorem dX12_within_5 : decode cX12_within 5 = .ok (.iload_n 1, 1) := by decide +kernel
theorem dX12_within_6 : decode cX12_within 6 = .ok (.goto 13, 3) := by decide +kernel
theorem dX12_within_9 : decode cX12_within 9 = .ok (.iload_n 0, 1) := by decide +kernel
theorem dX12_within_10 : decode cX12_within 10 = .ok (.iload_n 2, 1) := by decide +kernel
theorem dX12_within_11 : decode cX12_within 11 = .ok (.if_icmp .le 7, 3) := by decide +kernel
theorem dX12_within_14 : decode cX12_within 14 = .ok (.iload_n 2, 1) := by decide +kernel
theorem dX12_within_15 : decode cX12_within 15 = .ok (.goto 4, 3) := by decide +kernel
theorem dX12_within_18 : decode cX12_within 18 = .ok (.iload_n 0, 1) := by decide +kernel
theorem dX12_within_19 : decode cX12_within 19 = .ok (.ireturn, 1) := by decide +kernel
theorem dX12_lawOf_0 : decode cX12_lawOf 0 = .ok (.aload_n 0, 1) := by decide +kernel
theorem dX12_lawOf_1 : decode cX12_lawOf 1 = .ok (.getfield 104, 3) := by decide +kernel
theorem dX12_lawOf_4 : decode cX12_lawOf 4 = .ok (.iconst 0, 1) := by decide +kernel
theorem dX12_lawOf_5 : decode cX12_lawOf 5 = .ok (.aload_n 0, 1) := by decide +kernel
theorem dX12_lawOf_6 : decode cX12_lawOf 6 = .ok (.iload_n 1, 1) := by decide +kernel
theorem dX12_lawOf_7 : decode cX12_lawOf 7 = .ok (.invokevirtual 336, 3) := by decide +kernel
theorem dX12_lawOf_10 : decode cX12_lawOf 10 = .ok (.iastore, 1) := by decide +kernel
theorem dX12_lawOf_11 : decode cX12_lawOf 11 = .ok (.iconst 0, 1) := by decide +kernel
theorem dX12_lawOf_12 : decode cX12_lawOf 12 = .ok (.istore 5, 2) := by decide +kernel
theorem dX12_lawOf_14 : decode cX12_lawOf 14 = .ok (.iload 5, 2) := by decide +kernel
theorem dX12_lawOf_16 : decode cX12_lawOf 16 = .ok (.iconst 4, 1) := by decide +kernel
theorem dX12_lawOf_17 : decode cX12_lawOf 17 = .ok (.if_icmp .ge 30, 3) := by decide +kernel
theorem dX12_lawOf_20 : decode cX12_lawOf 20 = .ok (.aload_n 0, 1) := by decide +kernel
theorem dX12_lawOf_21 : decode cX12_lawOf 21 = .ok (.getfield 104, 3) := by decide +kernel
theorem dX12_lawOf_24 : decode cX12_lawOf 24 = .ok (.iconst 1, 1) := by decide +kernel
theorem dX12_lawOf_25 : decode cX12_lawOf 25 = .ok (.iload 5, 2) := by decide +kernel
theorem dX12_lawOf_27 : decode cX12_lawOf 27 = .ok (.iadd, 1) := by decide +kernel
theorem dX12_lawOf_28 : decode cX12_lawOf 28 = .ok (.aload_n 0, 1) := by decide +kernel
theorem dX12_lawOf_29 : decode cX12_lawOf 29 = .ok (.getfield 113, 3) := by decide +kernel
theorem dX12_lawOf_32 : decode cX12_lawOf 32 = .ok (.bipush 6, 2) := by decide +kernel
theorem dX12_lawOf_34 : decode cX12_lawOf 34 = .ok (.iload 5, 2) := by decide +kernel
theorem dX12_lawOf_36 : decode cX12_lawOf 36 = .ok (.imul, 1) := by decide +kernel
theorem dX12_lawOf_37 : decode cX12_lawOf 37 = .ok (.iload_n 1, 1) := by decide +kernel
theorem dX12_lawOf_38 : decode cX12_lawOf 38 = .ok (.iadd, 1) := by decide +kernel
theorem dX12_lawOf_39 : decode cX12_lawOf 39 = .ok (.iaload, 1) := by decide +kernel
theorem dX12_lawOf_40 : decode cX12_lawOf 40 = .ok (.iastore, 1) := by decide +kernel
theorem dX12_lawOf_41 : decode cX12_lawOf 41 = .ok (.iinc 5 1, 3) := by decide +kernel
theorem dX12_lawOf_44 : decode cX12_lawOf 44 = .ok (.goto (-30), 3) := by decide +kernel
theorem dX12_lawOf_47 : decode cX12_lawOf 47 = .ok (.aload_n 0, 1) := by decide +kernel
theorem dX12_lawOf_48 : decode cX12_lawOf 48 = .ok (.getfield 104, 3) := by decide +kernel
theorem dX12_lawOf_51 : decode cX12_lawOf 51 = .ok (.iconst 5, 1) := by decide +kernel
theorem dX12_lawOf_52 : decode cX12_lawOf 52 = .ok (.aload_n 0, 1) := by decide +kernel
theorem dX12_lawOf_53 : decode cX12_lawOf 53 = .ok (.getfield 113, 3) := by decide +kernel
theorem dX12_lawOf_56 : decode cX12_lawOf 56 = .ok (.bipush 36, 2) := by decide +kernel
theorem dX12_lawOf_58 : decode cX12_lawOf 58 = .ok (.iaload, 1) := by decide +kernel
theorem dX12_lawOf_59 : decode cX12_lawOf 59 = .ok (.iastore, 1) := by decide +kernel
theorem dX12_lawOf_60 : decode cX12_lawOf 60 = .ok (.aload_n 0, 1) := by decide +kernel
theorem dX12_lawOf_61 : decode cX12_lawOf 61 = .ok (.getfield 104, 3) := by decide +kernel
theorem dX12_lawOf_64 : decode cX12_lawOf 64 = .ok (.bipush 6, 2) := by decide +kernel
theorem dX12_lawOf_66 : decode cX12_lawOf 66 = .ok (.iload_n 1, 1) := by decide +kernel
theorem dX12_lawOf_67 : decode cX12_lawOf 67 = .ok (.iastore, 1) := by decide +kernel
theorem dX12_lawOf_68 : decode cX12_lawOf 68 = .ok (.aload_n 0, 1) := by decide +kernel
theorem dX12_lawOf_69 : decode cX12_lawOf 69 = .ok (.getfield 104, 3) := by decide +kernel
theorem dX12_lawOf_72 : decode cX12_lawOf 72 = .ok (.bipush 7, 2) := by decide +kernel
theorem dX12_lawOf_74 : decode cX12_lawOf 74 = .ok (.aload_n 0, 1) := by decide +kernel
theorem dX12_lawOf_75 : decode cX12_lawOf 75 = .ok (.getfield 113, 3) := by decide +kernel
theorem dX12_lawOf_78 : decode cX12_lawOf 78 = .ok (.bipush 24, 2) := by decide +kernel
theorem dX12_lawOf_80 : decode cX12_lawOf 80 = .ok (.iload_n 1, 1) := by decide +kernel
theorem dX12_lawOf_81 : decode cX12_lawOf 81 = .ok (.iadd, 1) := by decide +kernel
theorem dX12_lawOf_82 : decode cX12_lawOf 82 = .ok (.iaload, 1) := by decide +kernel
theorem dX12_lawOf_83 : decode cX12_lawOf 83 = .ok (.iastore, 1) := by decide +kernel
theorem dX12_lawOf_84 : decode cX12_lawOf 84 = .ok (.aload_n 0, 1) := by decide +kernel
theorem dX12_lawOf_85 : decode cX12_lawOf 85 = .ok (.getfield 104, 3) := by decide +kernel
theorem dX12_lawOf_88 : decode cX12_lawOf 88 = .ok (.bipush 8, 2) := by decide +kernel
theorem dX12_lawOf_90 : decode cX12_lawOf 90 = .ok (.aload_n 0, 1) := by decide +kernel
theorem dX12_lawOf_91 : decode cX12_lawOf 91 = .ok (.getfield 113, 3) := by decide +kernel
theorem dX12_lawOf_94 : decode cX12_lawOf 94 = .ok (.bipush 30, 2) := by decide +kernel
theorem dX12_lawOf_96 : decode cX12_lawOf 96 = .ok (.iload_n 1, 1) := by decide +kernel
theorem dX12_lawOf_97 : decode cX12_lawOf 97 = .ok (.iadd, 1) := by decide +kernel
theorem dX12_lawOf_98 : decode cX12_lawOf 98 = .ok (.iaload, 1) := by decide +kernel
theorem dX12_lawOf_99 : decode cX12_lawOf 99 = .ok (.iastore, 1) := by decide +kernel
theorem dX12_lawOf_100 : decode cX12_lawOf 100 = .ok (.aload_n 0, 1) := by decide +kernel
theorem dX12_lawOf_101 : decode cX12_lawOf 101 = .ok (.iload_n 2, 1) := by decide +kernel
theorem dX12_lawOf_102 : decode cX12_lawOf 102 = .ok (.iload_n 3, 1) := by decide +kernel
theorem dX12_lawOf_103 : decode cX12_lawOf 103 = .ok (.invokevirtual 339, 3) := by decide +kernel
theorem dX12_lawOf_106 : decode cX12_lawOf 106 = .ok (.iconst 0, 1) := by decide +kernel
theorem dX12_lawOf_107 : decode cX12_lawOf 107 = .ok (.iload 4, 2) := by decide +kernel
theorem dX12_lawOf_109 : decode cX12_lawOf 109 = .ok (.invokestatic 342, 3) := by decide +kernel
theorem dX12_lawOf_112 : decode cX12_lawOf 112 = .ok (.ireturn, 1) := by decide +kernel
theorem dX12_fadesOf_0 : decode cX12_fadesOf 0 = .ok (.aload_n 0, 1) := by decide +kernel
theorem dX12_fadesOf_1 : decode cX12_fadesOf 1 = .ok (.iload_n 1, 1) := by decide +kernel
theorem dX12_fadesOf_2 : decode cX12_fadesOf 2 = .ok (.iconst 2, 1) := by decide +kernel
theorem dX12_fadesOf_3 : decode cX12_fadesOf 3 = .ok (.iconst 1, 1) := by decide +kernel
theorem dX12_fadesOf_4 : decode cX12_fadesOf 4 = .ok (.aload_n 0, 1) := by decide +kernel
theorem dX12_fadesOf_5 : decode cX12_fadesOf 5 = .ok (.getfield 113, 3) := by decide +kernel
theorem dX12_fadesOf_8 : decode cX12_fadesOf 8 = .ok (.bipush 12, 2) := by decide +kernel
theorem dX12_fadesOf_10 : decode cX12_fadesOf 10 = .ok (.iload_n 1, 1) := by decide +kernel
theorem dX12_fadesOf_11 : decode cX12_fadesOf 11 = .ok (.iadd, 1) := by decide +kernel
theorem dX12_fadesOf_12 : decode cX12_fadesOf 12 = .ok (.iaload, 1) := by decide +kernel
theorem dX12_fadesOf_13 : decode cX12_fadesOf 13 = .ok (.invokevirtual 345, 3) := by decide +kernel
theorem dX12_fadesOf_16 : decode cX12_fadesOf 16 = .ok (.ireturn, 1) := by decide +kernel
theorem dX12_coolsOf_0 : decode cX12_coolsOf 0 = .ok (.aload_n 0, 1) := by decide +kernel
theorem dX12_coolsOf_1 : decode cX12_coolsOf 1 = .ok (.iload_n 1, 1) := by decide +kernel
theorem dX12_coolsOf_2 : decode cX12_coolsOf 2 = .ok (.iconst 0, 1) := by decide +kernel
theorem dX12_coolsOf_3 : decode cX12_coolsOf 3 = .ok (.aload_n 0, 1) := by decide +kernel
theorem dX12_coolsOf_4 : decode cX12_coolsOf 4 = .ok (.getfield 113, 3) := by decide +kernel
theorem dX12_coolsOf_7 : decode cX12_coolsOf 7 = .ok (.iload_n 1, 1) := by decide +kernel
theorem dX12_coolsOf_8 : decode cX12_coolsOf 8 = .ok (.iaload, 1) := by decide +kernel
theorem dX12_coolsOf_9 : decode cX12_coolsOf 9 = .ok (.iconst 1, 1) := by decide +kernel
theorem dX12_coolsOf_10 : decode cX12_coolsOf 10 = .ok (.iadd, 1) := by decide +kernel
theorem dX12_coolsOf_11 : decode cX12_coolsOf 11 = .ok (.bipush 99, 2) := by decide +kernel
theorem dX12_coolsOf_13 : decode cX12_coolsOf 13 = .ok (.invokevirtual 345, 3) := by decide +kernel
theorem dX12_coolsOf_16 : decode cX12_coolsOf 16 = .ok (.ireturn, 1) := by decide +kernel
theorem dX12_chillOf_0 : decode cX12_chillOf 0 = .ok (.aload_n 0, 1) := by decide +kernel
theorem dX12_chillOf_1 : decode cX12_chillOf 1 = .ok (.iload_n 1, 1) := by decide +kernel
theorem dX12_chillOf_2 : decode cX12_chillOf 2 = .ok (.invokevirtual 349, 3) := by decide +kernel
theorem dX12_chillOf_5 : decode cX12_chillOf 5 = .ok (.aload_n 0, 1) := by decide +kernel
theorem dX12_chillOf_6 : decode cX12_chillOf 6 = .ok (.getfield 113, 3) := by decide +kernel
theorem dX12_chillOf_9 : decode cX12_chillOf 9 = .ok (.bipush 18, 2) := by decide +kernel
theorem dX12_chillOf_11 : decode cX12_chillOf 11 = .ok (.iload_n 1, 1) := by decide +kernel
theorem dX12_chillOf_12 : decode cX12_chillOf 12 = .ok (.iadd, 1) := by decide +kernel
theorem dX12_chillOf_13 : decode cX12_chillOf 13 = .ok (.iaload, 1) := by decide +kernel
theorem dX12_chillOf_14 : decode cX12_chillOf 14 = .ok (.iconst 1, 1) := by decide +kernel
theorem dX12_chillOf_15 : decode cX12_chillOf 15 = .ok (.iadd, 1) := by decide +kernel
theorem dX12_chillOf_16 : decode cX12_chillOf 16 = .ok (.imul, 1) := by decide +kernel
theorem dX12_chillOf_17 : decode cX12_chillOf 17 = .ok (.ireturn, 1) := by decide +kernel
theorem dX12_mixed_0 : decode cX12_mixed 0 = .ok (.iload_n 0, 1) := by decide +kernel
theorem dX12_mixed_1 : decode cX12_mixed 1 = .ok (.iload_n 1, 1) := by decide +kernel
theorem dX12_mixed_2 : decode cX12_mixed 2 = .ok (.ixor, 1) := by decide +kernel
theorem dX12_mixed_3 : decode cX12_mixed 3 = .ok (.ldc_w 326, 3) := by decide +kernel
theorem dX12_mixed_6 : decode cX12_mixed 6 = .ok (.imul, 1) := by decide +kernel
theorem dX12_mixed_7 : decode cX12_mixed 7 = .ok (.sipush 12345, 3) := by decide +kernel
theorem dX12_mixed_10 : decode cX12_mixed 10 = .ok (.iadd, 1) := by decide +kernel
theorem dX12_mixed_11 : decode cX12_mixed 11 = .ok (.istore_n 2, 1) := by decide +kernel
theorem dX12_mixed_12 : decode cX12_mixed 12 = .ok (.iload_n 2, 1) := by decide +kernel
theorem dX12_mixed_13 : decode cX12_mixed 13 = .ok (.iload_n 2, 1) := by decide +kernel
theorem dX12_mixed_14 : decode cX12_mixed 14 = .ok (.bipush 15, 2) := by decide +kernel
theorem dX12_mixed_16 : decode cX12_mixed 16 = .ok (.iushr, 1) := by decide +kernel
theorem dX12_mixed_17 : decode cX12_mixed 17 = .ok (.ixor, 1) := by decide +kernel
theorem dX12_mixed_18 : decode cX12_mixed 18 = .ok (.ireturn, 1) := by decide +kernel
theorem dX12_lotOf_0 : decode cX12_lotOf 0 = .ok (.aload_n 0, 1) := by decide +kernel
theorem dX12_lotOf_1 : decode cX12_lotOf 1 = .ok (.getfield 317, 3) := by decide +kernel
theorem dX12_lotOf_4 : decode cX12_lotOf 4 = .ok (.sipush 177, 3) := by decide +kernel
theorem dX12_lotOf_7 : decode cX12_lotOf 7 = .ok (.invokestatic 327, 3) := by decide +kernel
theorem dX12_lotOf_10 : decode cX12_lotOf 10 = .ok (.iload_n 1, 1) := by decide +kernel
theorem dX12_lotOf_11 : decode cX12_lotOf 11 = .ok (.invokestatic 327, 3) := by decide +kernel
theorem dX12_lotOf_14 : decode cX12_lotOf 14 = .ok (.iconst 1, 1) := by decide +kernel
theorem dX12_lotOf_15 : decode cX12_lotOf 15 = .ok (.iushr, 1) := by decide +kernel
theorem dX12_lotOf_16 : decode cX12_lotOf 16 = .ok (.iload_n 2, 1) := by decide +kernel
theorem dX12_lotOf_17 : decode cX12_lotOf 17 = .ok (.irem, 1) := by decide +kernel
theorem dX12_lotOf_18 : decode cX12_lotOf 18 = .ok (.ireturn, 1) := by decide +kernel
theorem dX12_isHail_0 : decode cX12_isHail 0 = .ok (.aload_n 0, 1) := by decide +kernel
theorem dX12_isHail_1 : decode cX12_isHail 1 = .ok (.iconst 4, 1) := by decide +kernel
theorem dX12_isHail_2 : decode cX12_isHail 2 = .ok (.aload_n 0, 1) := by decide +kernel
theorem dX12_isHail_3 : decode cX12_isHail 3 = .ok (.getfield 113, 3) := by decide +kernel
theorem dX12_isHail_6 : decode cX12_isHail 6 = .ok (.bipush 36, 2) := by decide +kernel
theorem dX12_isHail_8 : decode cX12_isHail 8 = .ok (.iaload, 1) := by decide +kernel
theorem dX12_isHail_9 : decode cX12_isHail 9 = .ok (.imul, 1) := by decide +kernel
theorem dX12_isHail_10 : decode cX12_isHail 10 = .ok (.bipush 100, 2) := by decide +kernel
theorem dX12_isHail_12 : decode cX12_isHail 12 = .ok (.invokevirtual 330, 3) := by decide +kernel
theorem dX12_isHail_15 : decode cX12_isHail 15 = .ok (.aload_n 0, 1) := by decide +kernel
theorem dX12_isHail_16 : decode cX12_isHail 16 = .ok (.getfield 67, 3) := by decide +kernel
theorem dX12_isHail_19 : decode cX12_isHail 19 = .ok (.aload_n 0, 1) := by decide +kernel
theorem dX12_isHail_20 : decode cX12_isHail 20 = .ok (.getfield 245, 3) := by decide +kernel
theorem dX12_isHail_23 : decode cX12_isHail 23 = .ok (.iaload, 1) := by decide +kernel
theorem dX12_isHail_24 : decode cX12_isHail 24 = .ok (.if_icmp .ge 7, 3) := by decide +kernel
theorem dX12_isHail_27 : decode cX12_isHail 27 = .ok (.iconst 1, 1) := by decide +kernel
theorem dX12_isHail_28 : decode cX12_isHail 28 = .ok (.goto 4, 3) := by decide +kernel
theorem dX12_isHail_31 : decode cX12_isHail 31 = .ok (.iconst 0, 1) := by decide +kernel
theorem dX12_isHail_32 : decode cX12_isHail 32 = .ok (.ireturn, 1) := by decide +kernel
theorem dX12_dayGoes_0 : decode cX12_dayGoes 0 = .ok (.iconst 0, 1) := by decide +kernel
theorem dX12_dayGoes_1 : decode cX12_dayGoes 1 = .ok (.istore_n 1, 1) := by decide +kernel
theorem dX12_dayGoes_2 : decode cX12_dayGoes 2 = .ok (.iload_n 1, 1) := by decide +kernel
theorem dX12_dayGoes_3 : decode cX12_dayGoes 3 = .ok (.aload_n 0, 1) := by decide +kernel
theorem dX12_dayGoes_4 : decode cX12_dayGoes 4 = .ok (.invokevirtual 309, 3) := by decide +kernel
theorem dX12_dayGoes_7 : decode cX12_dayGoes 7 = .ok (.if_icmp .ge 31, 3) := by decide +kernel
theorem dX12_dayGoes_10 : decode cX12_dayGoes 10 = .ok (.aload_n 0, 1) := by decide +kernel
theorem dX12_dayGoes_11 : decode cX12_dayGoes 11 = .ok (.getfield 116, 3) := by decide +kernel
theorem dX12_dayGoes_14 : decode cX12_dayGoes 14 = .ok (.iload_n 1, 1) := by decide +kernel
theorem dX12_dayGoes_15 : decode cX12_dayGoes 15 = .ok (.aload_n 0, 1) := by decide +kernel
theorem dX12_dayGoes_16 : decode cX12_dayGoes 16 = .ok (.iload_n 1, 1) := by decide +kernel
theorem dX12_dayGoes_17 : decode cX12_dayGoes 17 = .ok (.invokevirtual 358, 3) := by decide +kernel
theorem dX12_dayGoes_20 : decode cX12_dayGoes 20 = .ok (.iastore, 1) := by decide +kernel
theorem dX12_dayGoes_21 : decode cX12_dayGoes 21 = .ok (.aload_n 0, 1) := by decide +kernel
theorem dX12_dayGoes_22 : decode cX12_dayGoes 22 = .ok (.getfield 119, 3) := by decide +kernel
theorem dX12_dayGoes_25 : decode cX12_dayGoes 25 = .ok (.iload_n 1, 1) := by decide +kernel
theorem dX12_dayGoes_26 : decode cX12_dayGoes 26 = .ok (.aload_n 0, 1) := by decide +kernel
theorem dX12_dayGoes_27 : decode cX12_dayGoes 27 = .ok (.iload_n 1, 1) := by decide +kernel
theorem dX12_dayGoes_28 : decode cX12_dayGoes 28 = .ok (.invokevirtual 361, 3) := by decide +kernel
theorem dX12_dayGoes_31 : decode cX12_dayGoes 31 = .ok (.iastore, 1) := by decide +kernel
theorem dX12_dayGoes_32 : decode cX12_dayGoes 32 = .ok (.iinc 1 1, 3) := by decide +kernel
theorem dX12_dayGoes_35 : decode cX12_dayGoes 35 = .ok (.goto (-33), 3) := by decide +kernel
theorem dX12_dayGoes_38 : decode cX12_dayGoes 38 = .ok (.iconst 0, 1) := by decide +kernel
theorem dX12_dayGoes_39 : decode cX12_dayGoes 39 = .ok (.istore_n 1, 1) := by decide +kernel
theorem dX12_dayGoes_40 : decode cX12_dayGoes 40 = .ok (.iload_n 1, 1) := by decide +kernel
theorem dX12_dayGoes_41 : decode cX12_dayGoes 41 = .ok (.aload_n 0, 1) := by decide +kernel
theorem dX12_dayGoes_42 : decode cX12_dayGoes 42 = .ok (.invokevirtual 309, 3) := by decide +kernel
theorem dX12_dayGoes_45 : decode cX12_dayGoes 45 = .ok (.if_icmp .ge 69, 3) := by decide +kernel
theorem dX12_dayGoes_48 : decode cX12_dayGoes 48 = .ok (.aload_n 0, 1) := by decide +kernel
theorem dX12_dayGoes_49 : decode cX12_dayGoes 49 = .ok (.getfield 113, 3) := by decide +kernel
theorem dX12_dayGoes_52 : decode cX12_dayGoes 52 = .ok (.bipush 12, 2) := by decide +kernel
theorem dX12_dayGoes_54 : decode cX12_dayGoes 54 = .ok (.iload_n 1, 1) := by decide +kernel
theorem dX12_dayGoes_55 : decode cX12_dayGoes 55 = .ok (.iadd, 1) := by decide +kernel
theorem dX12_dayGoes_56 : decode cX12_dayGoes 56 = .ok (.dup2, 1) := by decide +kernel
theorem dX12_dayGoes_57 : decode cX12_dayGoes 57 = .ok (.iaload, 1) := by decide +kernel
theorem dX12_dayGoes_58 : decode cX12_dayGoes 58 = .ok (.aload_n 0, 1) := by decide +kernel
theorem dX12_dayGoes_59 : decode cX12_dayGoes 59 = .ok (.getfield 116, 3) := by decide +kernel
theorem dX12_dayGoes_62 : decode cX12_dayGoes 62 = .ok (.iload_n 1, 1) := by decide +kernel
theorem dX12_dayGoes_63 : decode cX12_dayGoes 63 = .ok (.iaload, 1) := by decide +kernel
theorem dX12_dayGoes_64 : decode cX12_dayGoes 64 = .ok (.isub, 1) := by decide +kernel
theorem dX12_dayGoes_65 : decode cX12_dayGoes 65 = .ok (.iastore, 1) := by decide +kernel
theorem dX12_dayGoes_66 : decode cX12_dayGoes 66 = .ok (.aload_n 0, 1) := by decide +kernel
theorem dX12_dayGoes_67 : decode cX12_dayGoes 67 = .ok (.getfield 113, 3) := by decide +kernel
theorem dX12_dayGoes_70 : decode cX12_dayGoes 70 = .ok (.bipush 6, 2) := by decide +kernel
theorem dX12_dayGoes_72 : decode cX12_dayGoes 72 = .ok (.iload_n 1, 1) := by decide +kernel
theorem dX12_dayGoes_73 : decode cX12_dayGoes 73 = .ok (.iadd, 1) := by decide +kernel
theorem dX12_dayGoes_74 : decode cX12_dayGoes 74 = .ok (.aload_n 0, 1) := by decide +kernel
theorem dX12_dayGoes_75 : decode cX12_dayGoes 75 = .ok (.getfield 113, 3) := by decide +kernel
theorem dX12_dayGoes_78 : decode cX12_dayGoes 78 = .ok (.bipush 6, 2) := by decide +kernel
theorem dX12_dayGoes_80 : decode cX12_dayGoes 80 = .ok (.iload_n 1, 1) := by decide +kernel
theorem dX12_dayGoes_81 : decode cX12_dayGoes 81 = .ok (.iadd, 1) := by decide +kernel
theorem dX12_dayGoes_82 : decode cX12_dayGoes 82 = .ok (.iaload, 1) := by decide +kernel
theorem dX12_dayGoes_83 : decode cX12_dayGoes 83 = .ok (.aload_n 0, 1) := by decide +kernel
theorem dX12_dayGoes_84 : decode cX12_dayGoes 84 = .ok (.getfield 119, 3) := by decide +kernel
theorem dX12_dayGoes_87 : decode cX12_dayGoes 87 = .ok (.iload_n 1, 1) := by decide +kernel
theorem dX12_dayGoes_88 : decode cX12_dayGoes 88 = .ok (.iaload, 1) := by decide +kernel
theorem dX12_dayGoes_89 : decode cX12_dayGoes 89 = .ok (.isub, 1) := by decide +kernel
theorem dX12_dayGoes_90 : decode cX12_dayGoes 90 = .ok (.iconst 0, 1) := by decide +kernel
theorem dX12_dayGoes_91 : decode cX12_dayGoes 91 = .ok (.sipush 999, 3) := by decide +kernel
theorem dX12_dayGoes_94 : decode cX12_dayGoes 94 = .ok (.invokestatic 342, 3) := by decide +kernel
theorem dX12_dayGoes_97 : decode cX12_dayGoes 97 = .ok (.iastore, 1) := by decide +kernel
theorem dX12_dayGoes_98 : decode cX12_dayGoes 98 = .ok (.aload_n 0, 1) := by decide +kernel
theorem dX12_dayGoes_99 : decode cX12_dayGoes 99 = .ok (.getfield 113, 3) := by decide +kernel
theorem dX12_dayGoes_102 : decode cX12_dayGoes 102 = .ok (.bipush 30, 2) := by decide +kernel
theorem dX12_dayGoes_104 : decode cX12_dayGoes 104 = .ok (.iload_n 1, 1) := by decide +kernel
theorem dX12_dayGoes_105 : decode cX12_dayGoes 105 = .ok (.iadd, 1) := by decide +kernel
theorem dX12_dayGoes_106 : decode cX12_dayGoes 106 = .ok (.iconst 0, 1) := by decide +kernel
theorem dX12_dayGoes_107 : decode cX12_dayGoes 107 = .ok (.iastore, 1) := by decide +kernel
theorem dX12_dayGoes_108 : decode cX12_dayGoes 108 = .ok (.iinc 1 1, 3) := by decide +kernel
theorem dX12_dayGoes_111 : decode cX12_dayGoes 111 = .ok (.goto (-71), 3) := by decide +kernel
theorem dX12_dayGoes_114 : decode cX12_dayGoes 114 = .ok (.aload_n 0, 1) := by decide +kernel
theorem dX12_dayGoes_115 : decode cX12_dayGoes 115 = .ok (.getfield 320, 3) := by decide +kernel
theorem dX12_dayGoes_118 : decode cX12_dayGoes 118 = .ok (.ifCond .ne 61, 3) := by decide +kernel
theorem dX12_dayGoes_121 : decode cX12_dayGoes 121 = .ok (.aload_n 0, 1) := by decide +kernel
theorem dX12_dayGoes_122 : decode cX12_dayGoes 122 = .ok (.invokevirtual 309, 3) := by decide +kernel
theorem dX12_dayGoes_125 : decode cX12_dayGoes 125 = .ok (.ifCond .le 54, 3) := by decide +kernel
theorem dX12_dayGoes_128 : decode cX12_dayGoes 128 = .ok (.aload_n 0, 1) := by decide +kernel
theorem dX12_dayGoes_129 : decode cX12_dayGoes 129 = .ok (.invokevirtual 364, 3) := by decide +kernel
theorem dX12_dayGoes_132 : decode cX12_dayGoes 132 = .ok (.ifCond .eq 47, 3) := by decide +kernel
theorem dX12_dayGoes_135 : decode cX12_dayGoes 135 = .ok (.aload_n 0, 1) := by decide +kernel
theorem dX12_dayGoes_136 : decode cX12_dayGoes 136 = .ok (.iconst 4, 1) := by decide +kernel
theorem dX12_dayGoes_137 : decode cX12_dayGoes 137 = .ok (.aload_n 0, 1) := by decide +kernel
theorem dX12_dayGoes_138 : decode cX12_dayGoes 138 = .ok (.getfield 113, 3) := by decide +kernel
theorem dX12_dayGoes_141 : decode cX12_dayGoes 141 = .ok (.bipush 36, 2) := by decide +kernel
theorem dX12_dayGoes_143 : decode cX12_dayGoes 143 = .ok (.iaload, 1) := by decide +kernel
theorem dX12_dayGoes_144 : decode cX12_dayGoes 144 = .ok (.imul, 1) := by decide +kernel
theorem dX12_dayGoes_145 : decode cX12_dayGoes 145 = .ok (.iconst 1, 1) := by decide +kernel
theorem dX12_dayGoes_146 : decode cX12_dayGoes 146 = .ok (.iadd, 1) := by decide +kernel
theorem dX12_dayGoes_147 : decode cX12_dayGoes 147 = .ok (.aload_n 0, 1) := by decide +kernel
theorem dX12_dayGoes_148 : decode cX12_dayGoes 148 = .ok (.invokevirtual 309, 3) := by decide +kernel
theorem dX12_dayGoes_151 : decode cX12_dayGoes 151 = .ok (.invokevirtual 330, 3) := by decide +kernel
theorem dX12_dayGoes_154 : decode cX12_dayGoes 154 = .ok (.istore_n 1, 1) := by decide +kernel
theorem dX12_dayGoes_155 : decode cX12_dayGoes 155 = .ok (.aload_n 0, 1) := by decide +kernel
theorem dX12_dayGoes_156 : decode cX12_dayGoes 156 = .ok (.getfield 113, 3) := by decide +kernel
theorem dX12_dayGoes_159 : decode cX12_dayGoes 159 = .ok (.iload_n 1, 1) := by decide +kernel
theorem dX12_dayGoes_160 : decode cX12_dayGoes 160 = .ok (.iaload, 1) := by decide +kernel
theorem dX12_dayGoes_161 : decode cX12_dayGoes 161 = .ok (.aload_n 0, 1) := by decide +kernel
theorem dX12_dayGoes_162 : decode cX12_dayGoes 162 = .ok (.iload_n 1, 1) := by decide +kernel
theorem dX12_dayGoes_163 : decode cX12_dayGoes 163 = .ok (.invokevirtual 336, 3) := by decide +kernel
theorem dX12_dayGoes_166 : decode cX12_dayGoes 166 = .ok (.if_icmp .ge 13, 3) := by decide +kernel
theorem dX12_dayGoes_169 : decode cX12_dayGoes 169 = .ok (.aload_n 0, 1) := by decide +kernel
theorem dX12_dayGoes_170 : decode cX12_dayGoes 170 = .ok (.getfield 113, 3) := by decide +kernel
theorem dX12_dayGoes_173 : decode cX12_dayGoes 173 = .ok (.iload_n 1, 1) := by decide +kernel
theorem dX12_dayGoes_174 : decode cX12_dayGoes 174 = .ok (.dup2, 1) := by decide +kernel
theorem dX12_dayGoes_175 : decode cX12_dayGoes 175 = .ok (.iaload, 1) := by decide +kernel
theorem dX12_dayGoes_176 : decode cX12_dayGoes 176 = .ok (.iconst 1, 1) := by decide +kernel
theorem dX12_dayGoes_177 : decode cX12_dayGoes 177 = .ok (.iadd, 1) := by decide +kernel
theorem dX12_dayGoes_178 : decode cX12_dayGoes 178 = .ok (.iastore, 1) := by decide +kernel
theorem dX12_dayGoes_179 : decode cX12_dayGoes 179 = .ok (.aload_n 0, 1) := by decide +kernel
theorem dX12_dayGoes_180 : decode cX12_dayGoes 180 = .ok (.getfield 113, 3) := by decide +kernel
theorem dX12_dayGoes_183 : decode cX12_dayGoes 183 = .ok (.bipush 36, 2) := by decide +kernel
theorem dX12_dayGoes_185 : decode cX12_dayGoes 185 = .ok (.dup2, 1) := by decide +kernel
theorem dX12_dayGoes_186 : decode cX12_dayGoes 186 = .ok (.iaload, 1) := by decide +kernel
theorem dX12_dayGoes_187 : decode cX12_dayGoes 187 = .ok (.iconst 1, 1) := by decide +kernel
theorem dX12_dayGoes_188 : decode cX12_dayGoes 188 = .ok (.iadd, 1) := by decide +kernel
theorem dX12_dayGoes_189 : decode cX12_dayGoes 189 = .ok (.iastore, 1) := by decide +kernel
theorem dX12_dayGoes_190 : decode cX12_dayGoes 190 = .ok (.return_, 1) := by decide +kernel
section WK7
variable {p : Program} {l : Launch} {e : Env} {s : State} {m : MethodId} {args : Array Value} {below : List Frame} {meth : Method} {c : Code} {ω : WW}

set_option maxHeartbeats 4000000 in
set_option maxRecDepth 100000 in
theorem wX11_worst_s20 (hW : FWC ω) (C : Cx ω p s m args c cX11_worst 6 RX11) (hr : meth.sig.returnType = some .int) (hk : meth.locks = false) {rr : Int32} {μo : Mem} {x1 : Int32} {x2 : Int32} {x3 : Int32} {x4 : Int32} {rec : Int32 → Int32 → Int32 → Mem → Option (Int32 × Mem)} (hrec : ∀ (z2 : Int32) (z3 : Int32) (z4 : Int32) (ν : Mem) (H : Heap) (locs : List Loc) (ls : Array Slot), Hd ω ν H → FS ω s H locs → lv_has ls 6 [(0, .ref (wB ω + 1)), (1, .int x1), (2, .int z2), (3, .int z3), (4, .int z4)] → rec z2 z3 z4 ν = some (rr, μo) → W p l e (rmd 4) s m args below meth c H locs 0 0 (MQ below (QR ω (some (.int rr)) μo) args s 0 0 (wA ω)) (F0 m 20 ls [])) {μ : Mem} {H : Heap} {locs : List Loc} {ls : Array Slot} (hH : Hd ω μ H) (hS : FS ω s H locs) (hl : lv_has ls 6 [(0, .ref (wB ω + 1)), (1, .int x1), (2, .int x2), (3, .int x3), (4, .int x4)]) (h : fX11_worst_s20 rec x1 x2 x3 x4 μ = some (rr, μo)) : W p l e (rmd 4) s m args below meth c H locs 0 0 (MQ below (QR ω (some (.int rr)) μo) args s 0 0 (wA ω)) (F0 m 20 ls []) := by
  have hx := C.1
  have hb := C.2.1
  unfold fX11_worst_s20 at h
  refine lv_iload hx hb dX11_worst_20 (lv_at hl 4 rfl) ?_
  refine lv_aload_n hx hb dX11_worst_22 rfl (lv_at hl 0 rfl) ?_
  refine g_476 (i := 17) C hH (jC_1 hW) rfl dX11_worst_23 ?_
  refine g_265 C hH (jC_17 hW) dX11_worst_26 ?_
  refine lv_icmp_ge (tgt := 65) hx hb dX11_worst_29 (by decide) (fun hc => ?_) (fun hc => ?_)
  · have h := ite_t hc h
    refine lv_iload_n hx hb dX11_worst_65 rfl (lv_at hl 1 rfl) ?_
    refine lv_if_ne (tgt := 73) hx hb dX11_worst_66 (by decide) (fun hc => ?_) (fun hc => ?_)
    · have h := ite_f hc h
      refine lv_iload_n hx hb dX11_worst_73 rfl (lv_at hl 3 rfl) ?_
      exact h_iret C hr hk hH hS rfl (by cases h; rfl) dX11_worst_74
    · have h := ite_t hc h
      refine lv_iload_n hx hb dX11_worst_69 rfl (lv_at hl 2 rfl) ?_
      refine lv_goto (tgt := 74) hx hb dX11_worst_70 (by decide) ?_
      exact h_iret C hr hk hH hS rfl (by cases h; rfl) dX11_worst_74
  · have h := ite_f hc h
    refine lv_aload_n hx hb dX11_worst_32 rfl (lv_at hl 0 rfl) ?_
    refine g_476 (i := 17) C hH (jC_1 hW) rfl dX11_worst_33 ?_
    refine lv_aload_n hx hb dX11_worst_36 rfl (lv_at hl 0 rfl) ?_
    refine g_477 (i := 24) C hH (jC_1 hW) rfl dX11_worst_37 ?_
    refine lv_iload hx hb dX11_worst_40 (lv_at hl 4 rfl) ?_
    obtain ⟨r3, μ2, e1, h⟩ := b2_e h
    refine cVi (as := [.ref (wB ω + 24), .int x4]) (rest := []) (c_X3_fades (qC_17 hW) (sC_24 hW) e1) C hl.1 hH hS rfl (jC_17 hW) rfl wd_768 wd_767 mw_X3_fades wd_766 rfl (rm_ok (by decide) (by decide)) (Nat.le_of_ble_eq_true rfl) ⟨Nat.zero_le _, Nat.zero_le _⟩ (by decide) dX11_worst_42 (fun H locs hH hS => ?_)
    refine lv_istore (lv' := [(5, .int r3), (0, .ref (wB ω + 1)), (1, .int x1), (2, .int x2), (3, .int x3), (4, .int x4)]) hx hb dX11_worst_45 hl (by decide) rfl (fun ls hl => ?_)
    refine lv_iload hx hb dX11_worst_47 (lv_at hl 0 rfl) ?_
    refine lv_iload_n hx hb dX11_worst_49 rfl (lv_at hl 4 rfl) ?_
    refine lv_icmp_le (tgt := 59) hx hb dX11_worst_50 (by decide) (fun hc => ?_) (fun hc => ?_)
    · have h := ite_t hc h
      refine lv_iinc (v := x4 + 1) (lv' := [(4, .int (x4 + 1)), (5, .int r3), (0, .ref (wB ω + 1)), (1, .int x1), (2, .int x2), (3, .int x3)]) hx hb dX11_worst_59 hl (k := 5) rfl rfl (by decide) rfl (fun ls hl => ?_)
      refine lv_goto (tgt := 20) hx hb dX11_worst_62 (by decide) ?_
      exact hrec _ _ _ _ H locs ls hH hS (lv_sub hl [2, 3, 4, 5, 0] rfl) h
    · have h := ite_f hc h
      refine lv_iload hx hb dX11_worst_53 (lv_at hl 0 rfl) ?_
      refine lv_istore_n (lv' := [(3, .int r3), (5, .int r3), (0, .ref (wB ω + 1)), (1, .int x1), (2, .int x2), (4, .int x4)]) hx hb dX11_worst_55 rfl hl (by decide) rfl (fun ls hl => ?_)
      refine lv_iload hx hb dX11_worst_56 (lv_at hl 5 rfl) ?_
      refine lv_istore_n (lv' := [(2, .int x4), (3, .int r3), (5, .int r3), (0, .ref (wB ω + 1)), (1, .int x1), (4, .int x4)]) hx hb dX11_worst_58 rfl hl (by decide) rfl (fun ls hl => ?_)
      refine lv_iinc (v := x4 + 1) (lv' := [(4, .int (x4 + 1)), (2, .int x4), (3, .int r3), (5, .int r3), (0, .ref (wB ω + 1)), (1, .int x1)]) hx hb dX11_worst_59 hl (k := 5) rfl rfl (by decide) rfl (fun ls hl => ?_)
      refine lv_goto (tgt := 20) hx hb dX11_worst_62 (by decide) ?_
      exact hrec _ _ _ _ H locs ls hH hS (lv_sub hl [4, 5, 1, 2, 0] rfl) h
theorem wX11_worst_l20 (hW : FWC ω) (C : Cx ω p s m args c cX11_worst 6 RX11) (hr : meth.sig.returnType = some .int) (hk : meth.locks = false) {rr : Int32} {μo : Mem} {x1 : Int32} : ∀ (n : Nat) (x2 : Int32) (x3 : Int32) (x4 : Int32) (μ : Mem) (H : Heap) (locs : List Loc) (ls : Array Slot), Hd ω μ H → FS ω s H locs → lv_has ls 6 [(0, .ref (wB ω + 1)), (1, .int x1), (2, .int x2), (3, .int x3), (4, .int x4)] → fX11_worst_l20 x1 n x2 x3 x4 μ = some (rr, μo) → W p l e (rmd 4) s m args below meth c H locs 0 0 (MQ below (QR ω (some (.int rr)) μo) args s 0 0 (wA ω)) (F0 m 20 ls []) := by
  intro n
  induction n with
  | zero => intro x2 x3 x4 μ H locs ls hH hS hl h; cases h
  | succ n ih => intro x2 x3 x4 μ H locs ls hH hS hl h; exact wX11_worst_s20 hW C hr hk ih hH hS hl h
set_option maxHeartbeats 4000000 in
set_option maxRecDepth 100000 in
theorem wX11_worst_b11 (hW : FWC ω) (C : Cx ω p s m args c cX11_worst 6 RX11) (hr : meth.sig.returnType = some .int) (hk : meth.locks = false) {rr : Int32} {μo : Mem} {x1 : Int32} {μ : Mem} {H : Heap} {locs : List Loc} {ls : Array Slot} (hH : Hd ω μ H) (hS : FS ω s H locs) (hl : lv_has ls 6 [(0, .ref (wB ω + 1)), (1, .int x1)]) (h : fX11_worst_b11 x1 μ = some (rr, μo)) : W p l e (rmd 4) s m args below meth c H locs 0 0 (MQ below (QR ω (some (.int rr)) μo) args s 0 0 (wA ω)) (F0 m 11 ls []) := by
  have hx := C.1
  have hb := C.2.1
  unfold fX11_worst_b11 at h
  refine lv_bipush (v := (-2)) hx hb dX11_worst_11 (by decide) ?_
  refine lv_istore_n (lv' := [(2, .int (-2)), (0, .ref (wB ω + 1)), (1, .int x1)]) hx hb dX11_worst_13 rfl hl (by decide) rfl (fun ls hl => ?_)
  refine lv_bipush (v := (-2)) hx hb dX11_worst_14 (by decide) ?_
  refine lv_istore_n (lv' := [(3, .int (-2)), (2, .int (-2)), (0, .ref (wB ω + 1)), (1, .int x1)]) hx hb dX11_worst_16 rfl hl (by decide) rfl (fun ls hl => ?_)
  refine lv_iconst (v := 0) hx hb dX11_worst_17 (by decide) ?_
  refine lv_istore (lv' := [(4, .int 0), (3, .int (-2)), (2, .int (-2)), (0, .ref (wB ω + 1)), (1, .int x1)]) hx hb dX11_worst_18 hl (by decide) rfl (fun ls hl => ?_)
  exact wX11_worst_l20 hW C hr hk FU _ _ _ _ H locs ls hH hS (lv_sub hl [3, 4, 2, 1, 0] rfl) h
set_option maxHeartbeats 4000000 in
set_option maxRecDepth 100000 in
theorem wX11_worst_e (hW : FWC ω) (C : Cx ω p s m args c cX11_worst 6 RX11) (hr : meth.sig.returnType = some .int) (hk : meth.locks = false) {rr : Int32} {μo : Mem} {x1 : Int32} {μ : Mem} {H : Heap} {locs : List Loc} {ls : Array Slot} (hH : Hd ω μ H) (hS : FS ω s H locs) (hl : lv_has ls 6 [(0, .ref (wB ω + 1)), (1, .int x1)]) (h : fX11_worst x1 μ = some (rr, μo)) : W p l e (rmd 4) s m args below meth c H locs 0 0 (MQ below (QR ω (some (.int rr)) μo) args s 0 0 (wA ω)) (F0 m 0 ls []) := by
  have hx := C.1
  have hb := C.2.1
  unfold fX11_worst at h
  refine lv_iload_n hx hb dX11_worst_0 rfl (lv_at hl 1 rfl) ?_
  refine lv_if_eq (tgt := 11) hx hb dX11_worst_1 (by decide) (fun hc => ?_) (fun hc => ?_)
  · have h := ite_t hc h
    exact wX11_worst_b11 hW C hr hk hH hS hl h
  · have h := ite_f hc h
    refine lv_iload_n hx hb dX11_worst_4 rfl (lv_at hl 1 rfl) ?_
    refine lv_iconst (v := 1) hx hb dX11_worst_5 (by decide) ?_
    refine lv_icmp_eq (tgt := 11) hx hb dX11_worst_6 (by decide) (fun hc => ?_) (fun hc => ?_)
    · have h := ite_t hc h
      exact wX11_worst_b11 hW C hr hk hH hS hl h
    · have h := ite_f hc h
      refine lv_iconst (v := (-1)) hx hb dX11_worst_9 (by decide) ?_
      exact h_iret C hr hk hH hS rfl (by cases h; rfl) dX11_worst_10
theorem c_X11_worst {l : Launch} {ω : WW} {x1 : Int32} (hW : FWC ω) {μ : Mem} {rr : Int32} {μo : Mem} (h : fX11_worst x1 μ = some (rr, μo)) : Con l yX11_worst cX11_worst 6 (some .int) 4 ω [.ref (wB ω + 1), .int x1] μ (some (.int rr)) μo :=
  con_of (by decide) (Nat.le_of_ble_eq_true rfl) (fun p e s m args below meth c ls C hr hk hl hH hS => wX11_worst_e hW C hr hk hH hS (lv_sub hl [0, 1] rfl) h)
set_option maxHeartbeats 4000000 in
set_option maxRecDepth 100000 in
theorem wX11_year_s37 (hW : FWC ω) (C : Cx ω p s m args c cX11_year 6 RX11) (hr : meth.sig.returnType = some .int) (hk : meth.locks = false) {rr : Int32} {μo : Mem} {x1 : Int32} {x2 : Int32} {x3 : Int32} {x4 : Int32} {x5 : Int32} {rec : Int32 → Int32 → Mem → Option (Int32 × Mem)} (hrec : ∀ (z4 : Int32) (z5 : Int32) (ν : Mem) (H : Heap) (locs : List Loc) (ls : Array Slot), Hd ω ν H → FS ω s H locs → lv_has ls 6 [(0, .ref (wB ω + 1)), (1, .int x1), (2, .int x2), (3, .int x3), (4, .int z4), (5, .int z5)] → rec z4 z5 ν = some (rr, μo) → W p l e (rmd 6) s m args below meth c H locs 0 0 (MQ below (QR ω (some (.int rr)) μo) args s 0 0 (wA ω)) (F0 m 37 ls [])) {μ : Mem} {H : Heap} {locs : List Loc} {ls : Array Slot} (hH : Hd ω μ H) (hS : FS ω s H locs) (hl : lv_has ls 6 [(0, .ref (wB ω + 1)), (1, .int x1), (2, .int x2), (3, .int x3), (4, .int x4), (5, .int x5)]) (h : fX11_year_s37 rec x1 x2 x3 x4 x5 μ = some (rr, μo)) : W p l e (rmd 6) s m args below meth c H locs 0 0 (MQ below (QR ω (some (.int rr)) μo) args s 0 0 (wA ω)) (F0 m 37 ls []) := by
  have hx := C.1
  have hb := C.2.1
  unfold fX11_year_s37 at h
  refine lv_iload hx hb dX11_year_37 (lv_at hl 5 rfl) ?_
  refine lv_iload_n hx hb dX11_year_39 rfl (lv_at hl 3 rfl) ?_
  refine lv_icmp_ge (tgt := 80) hx hb dX11_year_40 (by decide) (fun hc => ?_) (fun hc => ?_)
  · have h := ite_t hc h
    refine lv_iload hx hb dX11_year_80 (lv_at hl 4 rfl) ?_
    exact h_iret C hr hk hH hS rfl (by cases h; rfl) dX11_year_82
  · have h := ite_f hc h
    refine lv_aload_n hx hb dX11_year_43 rfl (lv_at hl 0 rfl) ?_
    refine lv_iload_n hx hb dX11_year_44 rfl (lv_at hl 1 rfl) ?_
    refine lv_iload_n hx hb dX11_year_45 rfl (lv_at hl 2 rfl) ?_
    refine lv_aload_n hx hb dX11_year_46 rfl (lv_at hl 0 rfl) ?_
    refine g_476 (i := 17) C hH (jC_1 hW) rfl dX11_year_47 ?_
    refine g_277 C hH (jC_17 hW) dX11_year_50 ?_
    refine lv_iload hx hb dX11_year_53 (lv_at hl 5 rfl) ?_
    refine lv_iadd hx hb dX11_year_55 ?_
    obtain ⟨μ4, e3, h⟩ := b1_e h
    refine cVv (as := [.int x1, .int x2, .int ((μ.1 17 6) + x5)]) (rest := []) (c_X11_lookAhead hW e3) C hl.1 hH hS rfl (jC_1 hW) rfl wd_23 wd_1015 mw_X11_lookAhead wd_1013 rfl (rm_ok (by decide) (by decide)) (Nat.le_of_ble_eq_true rfl) ⟨Nat.zero_le _, Nat.zero_le _⟩ (by decide) dX11_year_56 (fun H locs hH hS => ?_)
    refine lv_aload_n hx hb dX11_year_59 rfl (lv_at hl 0 rfl) ?_
    refine g_478 (i := 26) C hH (jC_1 hW) rfl dX11_year_60 ?_
    refine lv_iload_n hx hb dX11_year_63 rfl (lv_at hl 1 rfl) ?_
    refine lv_iconst (v := 3) hx hb dX11_year_64 (by decide) ?_
    obtain ⟨r6, e5, h⟩ := b1_e h
    refine cVi (as := [.int x1, .int 3]) (rest := []) (c_X7_get (sC_26 hW) e5) C hl.1 hH hS rfl (jC_26 hW) rfl wd_745 wd_744 mw_X7_get wd_743 rfl (rm_ok (by decide) (by decide)) (Nat.le_of_ble_eq_true rfl) ⟨Nat.zero_le _, Nat.zero_le _⟩ (by decide) dX11_year_65 (fun H locs hH hS => ?_)
    refine lv_if_le (tgt := 74) hx hb dX11_year_68 (by decide) (fun hc => ?_) (fun hc => ?_)
    · have h := ite_t hc h
      refine lv_iinc (v := x5 + 1) (lv' := [(5, .int (x5 + 1)), (0, .ref (wB ω + 1)), (1, .int x1), (2, .int x2), (3, .int x3), (4, .int x4)]) hx hb dX11_year_74 hl (k := 5) rfl rfl (by decide) rfl (fun ls hl => ?_)
      refine lv_goto (tgt := 37) hx hb dX11_year_77 (by decide) ?_
      exact hrec _ _ _ H locs ls hH hS (lv_sub hl [1, 2, 3, 4, 5, 0] rfl) h
    · have h := ite_f hc h
      refine lv_iinc (v := x4 + 1) (lv' := [(4, .int (x4 + 1)), (0, .ref (wB ω + 1)), (1, .int x1), (2, .int x2), (3, .int x3), (5, .int x5)]) hx hb dX11_year_71 hl (k := 4) rfl rfl (by decide) rfl (fun ls hl => ?_)
      refine lv_iinc (v := x5 + 1) (lv' := [(5, .int (x5 + 1)), (4, .int (x4 + 1)), (0, .ref (wB ω + 1)), (1, .int x1), (2, .int x2), (3, .int x3)]) hx hb dX11_year_74 hl (k := 5) rfl rfl (by decide) rfl (fun ls hl => ?_)
      refine lv_goto (tgt := 37) hx hb dX11_year_77 (by decide) ?_
      exact hrec _ _ _ H locs ls hH hS (lv_sub hl [2, 3, 4, 5, 1, 0] rfl) h
theorem wX11_year_l37 (hW : FWC ω) (C : Cx ω p s m args c cX11_year 6 RX11) (hr : meth.sig.returnType = some .int) (hk : meth.locks = false) {rr : Int32} {μo : Mem} {x1 : Int32} {x2 : Int32} {x3 : Int32} : ∀ (n : Nat) (x4 : Int32) (x5 : Int32) (μ : Mem) (H : Heap) (locs : List Loc) (ls : Array Slot), Hd ω μ H → FS ω s H locs → lv_has ls 6 [(0, .ref (wB ω + 1)), (1, .int x1), (2, .int x2), (3, .int x3), (4, .int x4), (5, .int x5)] → fX11_year_l37 x1 x2 x3 n x4 x5 μ = some (rr, μo) → W p l e (rmd 6) s m args below meth c H locs 0 0 (MQ below (QR ω (some (.int rr)) μo) args s 0 0 (wA ω)) (F0 m 37 ls []) := by
  intro n
  induction n with
  | zero => intro x4 x5 μ H locs ls hH hS hl h; cases h
  | succ n ih => intro x4 x5 μ H locs ls hH hS hl h; exact wX11_year_s37 hW C hr hk ih hH hS hl h
set_option maxHeartbeats 4000000 in
set_option maxRecDepth 100000 in
theorem wX11_year_e (hW : FWC ω) (C : Cx ω p s m args c cX11_year 6 RX11) (hr : meth.sig.returnType = some .int) (hk : meth.locks = false) {rr : Int32} {μo : Mem} {x1 : Int32} {x2 : Int32} {x3 : Int32} {μ : Mem} {H : Heap} {locs : List Loc} {ls : Array Slot} (hH : Hd ω μ H) (hS : FS ω s H locs) (hl : lv_has ls 6 [(0, .ref (wB ω + 1)), (1, .int x1), (2, .int x2), (3, .int x3)]) (h : fX11_year x1 x2 x3 μ = some (rr, μo)) : W p l e (rmd 6) s m args below meth c H locs 0 0 (MQ below (QR ω (some (.int rr)) μo) args s 0 0 (wA ω)) (F0 m 0 ls []) := by
  have hx := C.1
  have hb := C.2.1
  unfold fX11_year at h
  refine lv_aload_n hx hb dX11_year_0 rfl (lv_at hl 0 rfl) ?_
  refine lv_iload_n hx hb dX11_year_1 rfl (lv_at hl 1 rfl) ?_
  obtain ⟨r2, e1, h⟩ := b1_e h
  refine cVi (as := [.int x1]) (rest := []) (c_X11_isHouse hW e1) C hl.1 hH hS rfl (jC_1 hW) rfl wd_15 wd_741 mw_X11_isHouse wd_739 rfl (rm_ok (by decide) (by decide)) (Nat.le_of_ble_eq_true rfl) ⟨Nat.zero_le _, Nat.zero_le _⟩ (by decide) dX11_year_2 (fun H locs hH hS => ?_)
  refine lv_if_eq (tgt := 29) hx hb dX11_year_5 (by decide) (fun hc => ?_) (fun hc => ?_)
  · have h := ite_t hc h
    refine lv_iconst (v := (-1)) hx hb dX11_year_29 (by decide) ?_
    exact h_iret C hr hk hH hS rfl (by cases h; rfl) dX11_year_30
  · have h := ite_f hc h
    refine lv_iload_n hx hb dX11_year_8 rfl (lv_at hl 2 rfl) ?_
    refine lv_if_lt (tgt := 29) hx hb dX11_year_9 (by decide) (fun hc => ?_) (fun hc => ?_)
    · have h := ite_t hc h
      refine lv_iconst (v := (-1)) hx hb dX11_year_29 (by decide) ?_
      exact h_iret C hr hk hH hS rfl (by cases h; rfl) dX11_year_30
    · have h := ite_f hc h
      refine lv_iload_n hx hb dX11_year_12 rfl (lv_at hl 2 rfl) ?_
      refine lv_bipush (v := 60) hx hb dX11_year_13 (by decide) ?_
      refine lv_icmp_gt (tgt := 29) hx hb dX11_year_15 (by decide) (fun hc => ?_) (fun hc => ?_)
      · have h := ite_t hc h
        refine lv_iconst (v := (-1)) hx hb dX11_year_29 (by decide) ?_
        exact h_iret C hr hk hH hS rfl (by cases h; rfl) dX11_year_30
      · have h := ite_f hc h
        refine lv_iload_n hx hb dX11_year_18 rfl (lv_at hl 3 rfl) ?_
        refine lv_iconst (v := 1) hx hb dX11_year_19 (by decide) ?_
        refine lv_icmp_lt (tgt := 29) hx hb dX11_year_20 (by decide) (fun hc => ?_) (fun hc => ?_)
        · have h := ite_t hc h
          refine lv_iconst (v := (-1)) hx hb dX11_year_29 (by decide) ?_
          exact h_iret C hr hk hH hS rfl (by cases h; rfl) dX11_year_30
        · have h := ite_f hc h
          refine lv_iload_n hx hb dX11_year_23 rfl (lv_at hl 3 rfl) ?_
          refine lv_bipush (v := 20) hx hb dX11_year_24 (by decide) ?_
          refine lv_icmp_le (tgt := 31) hx hb dX11_year_26 (by decide) (fun hc => ?_) (fun hc => ?_)
          · have h := ite_t hc h
            refine lv_iconst (v := 0) hx hb dX11_year_31 (by decide) ?_
            refine lv_istore (lv' := [(4, .int 0), (0, .ref (wB ω + 1)), (1, .int x1), (2, .int x2), (3, .int x3)]) hx hb dX11_year_32 hl (by decide) rfl (fun ls hl => ?_)
            refine lv_iconst (v := 0) hx hb dX11_year_34 (by decide) ?_
            refine lv_istore (lv' := [(5, .int 0), (4, .int 0), (0, .ref (wB ω + 1)), (1, .int x1), (2, .int x2), (3, .int x3)]) hx hb dX11_year_35 hl (by decide) rfl (fun ls hl => ?_)
            exact wX11_year_l37 hW C hr hk FU _ _ _ H locs ls hH hS (lv_sub hl [2, 3, 4, 5, 1, 0] rfl) h
          · have h := ite_f hc h
            refine lv_iconst (v := (-1)) hx hb dX11_year_29 (by decide) ?_
            exact h_iret C hr hk hH hS rfl (by cases h; rfl) dX11_year_30
theorem c_X11_year {l : Launch} {ω : WW} {x1 : Int32} {x2 : Int32} {x3 : Int32} (hW : FWC ω) {μ : Mem} {rr : Int32} {μo : Mem} (h : fX11_year x1 x2 x3 μ = some (rr, μo)) : Con l yX11_year cX11_year 6 (some .int) 6 ω [.ref (wB ω + 1), .int x1, .int x2, .int x3] μ (some (.int rr)) μo :=
  con_of (by decide) (Nat.le_of_ble_eq_true rfl) (fun p e s m args below meth c ls C hr hk hl hH hS => wX11_year_e hW C hr hk hH hS (lv_sub hl [0, 1, 2, 3] rfl) h)
set_option maxHeartbeats 4000000 in
set_option maxRecDepth 100000 in
theorem wX12_appends_e (C : Cx ω p s m args c cX12_appends 3 RX12) (hr : meth.sig.returnType = some .long) (hk : meth.locks = false) {rr : Int64} {μ : Mem} {x0 : Int64} {x2 : Int32} {H : Heap} {locs : List Loc} {ls : Array Slot} (hH : Hd ω μ H) (hS : FS ω s H locs) (hl : lv_has ls 3 [(0, .long x0), (2, .int x2)]) (h : fX12_appends x0 x2 = some rr) : W p l e (rmd 1) s m args below meth c H locs 0 0 (MQ below (QR ω (some (.long rr)) μ) args s 0 0 (wA ω)) (F0 m 0 ls []) := by
  have hx := C.1
  have hb := C.2.1
  unfold fX12_appends at h
  refine lv_iload_n hx hb dX12_appends_0 rfl (lv_at hl 1 rfl) ?_
  refine lv_if_ne (tgt := 8) hx hb dX12_appends_1 (by decide) (fun hc => ?_) (fun hc => ?_)
  · have h := ite_f hc h
    refine lv_ldc2 (v := 27) hx hb C.2.2.2.1 (C.2.2.2.2.1 _ (tg wd_1175 rfl)) dX12_appends_8 ?_
    refine lv_lload_n hx hb dX12_appends_11 rfl (lv_at hl 0 rfl) ?_
    refine lv_lmul hx hb dX12_appends_12 ?_
    refine lv_iload_n hx hb dX12_appends_13 rfl (lv_at hl 1 rfl) ?_
    refine lv_bipush (v := 97) hx hb dX12_appends_14 (by decide) ?_
    refine lv_isub hx hb dX12_appends_16 ?_
    refine lv_iconst (v := 1) hx hb dX12_appends_17 (by decide) ?_
    refine lv_iadd hx hb dX12_appends_18 ?_
    refine lv_i2l (v := ((x2 - 97) + 1).toInt64) hx hb dX12_appends_19 rfl ?_
    refine lv_ladd hx hb dX12_appends_20 ?_
    exact h_lret C hr hk hH hS (by cases h; rfl) dX12_appends_21
  · have h := ite_t hc h
    refine lv_lload_n hx hb dX12_appends_4 rfl (lv_at hl 0 rfl) ?_
    refine lv_goto (tgt := 21) hx hb dX12_appends_5 (by decide) ?_
    exact h_lret C hr hk hH hS (by cases h; rfl) dX12_appends_21
theorem c_X12_appends {l : Launch} {ω : WW} {x0 : Int64} {x2 : Int32} {μ : Mem} {rr : Int64} (h : fX12_appends x0 x2 = some rr) : Con l yX12_appends cX12_appends 3 (some .long) 1 ω [.long x0, .int x2] μ (some (.long rr)) μ :=
  con_of (by decide) (Nat.le_of_ble_eq_true rfl) (fun p e s m args below meth c ls C hr hk hl hH hS => wX12_appends_e C hr hk hH hS (lv_sub hl [0, 1] rfl) h)
set_option maxHeartbeats 4000000 in
set_option maxRecDepth 100000 in
theorem wX12_back_e (hW : FWM ω) (C : Cx ω p s m args c cX12_back 2 RX12) (hr : meth.sig.returnType = some .int) (hk : meth.locks = false) {rr : Int32} {μo : Mem} {x1 : Int32} {μ : Mem} {H : Heap} {locs : List Loc} {ls : Array Slot} (hH : Hd ω μ H) (hS : FS ω s H locs) (hl : lv_has ls 2 [(0, .ref (wB ω + 0)), (1, .int x1)]) (h : fX12_back x1 μ = some (rr, μo)) : W p l e (rmd 1) s m args below meth c H locs 0 0 (MQ below (QR ω (some (.int rr)) μo) args s 0 0 (wA ω)) (F0 m 0 ls []) := by
  have hx := C.1
  have hb := C.2.1
  unfold fX12_back at h
  refine lv_iload_n hx hb dX12_back_0 rfl (lv_at hl 1 rfl) ?_
  refine lv_if_lt (tgt := 12) hx hb dX12_back_1 (by decide) (fun hc => ?_) (fun hc => ?_)
  · have h := ite_t hc h
    refine lv_iconst (v := (-1)) hx hb dX12_back_12 (by decide) ?_
    exact h_iret C hr hk hH hS rfl (by cases h; rfl) dX12_back_13
  · have h := ite_f hc h
    refine lv_iload_n hx hb dX12_back_4 rfl (lv_at hl 1 rfl) ?_
    refine lv_aload_n hx hb dX12_back_5 rfl (lv_at hl 0 rfl) ?_
    refine g_1189 C hH (jM_0 hW) dX12_back_6 ?_
    refine lv_icmp_le (tgt := 14) hx hb dX12_back_9 (by decide) (fun hc => ?_) (fun hc => ?_)
    · have h := ite_t hc h
      refine lv_aload_n hx hb dX12_back_14 rfl (lv_at hl 0 rfl) ?_
      refine lv_dup hx hb dX12_back_15 rfl ?_
      refine g_1189 C hH (jM_0 hW) dX12_back_16 ?_
      refine lv_iload_n hx hb dX12_back_19 rfl (lv_at hl 1 rfl) ?_
      refine lv_isub hx hb dX12_back_20 ?_
      obtain ⟨μ1, e2, h⟩ := bd_e h
      refine p_1189 C hH hS (jM_0 hW) dX12_back_21 (fun H locs hH hS => ?_)
      have hH := Hd.to e2 hH
      refine lv_aload_n hx hb dX12_back_24 rfl (lv_at hl 0 rfl) ?_
      refine g_1189 C hH (jM_0 hW) dX12_back_25 ?_
      exact h_iret C hr hk hH hS rfl (by cases h; rfl) dX12_back_28
    · have h := ite_f hc h
      refine lv_iconst (v := (-1)) hx hb dX12_back_12 (by decide) ?_
      exact h_iret C hr hk hH hS rfl (by cases h; rfl) dX12_back_13
theorem c_X12_back {l : Launch} {ω : WW} {x1 : Int32} (hW : FWM ω) {μ : Mem} {rr : Int32} {μo : Mem} (h : fX12_back x1 μ = some (rr, μo)) : Con l yX12_back cX12_back 2 (some .int) 1 ω [.ref (wB ω + 0), .int x1] μ (some (.int rr)) μo :=
  con_of (by decide) (Nat.le_of_ble_eq_true rfl) (fun p e s m args below meth c ls C hr hk hl hH hS => wX12_back_e hW C hr hk hH hS (lv_sub hl [0, 1] rfl) h)
set_option maxHeartbeats 4000000 in
set_option maxRecDepth 100000 in
theorem wX12_many_e (hW : FWM ω) (C : Cx ω p s m args c cX12_many 1 RX12) (hr : meth.sig.returnType = some .int) (hk : meth.locks = false) {rr : Int32} {μ : Mem} {H : Heap} {locs : List Loc} {ls : Array Slot} (hH : Hd ω μ H) (hS : FS ω s H locs) (hl : lv_has ls 1 [(0, .ref (wB ω + 0))]) (h : fX12_many μ = some rr) : W p l e (rmd 1) s m args below meth c H locs 0 0 (MQ below (QR ω (some (.int rr)) μ) args s 0 0 (wA ω)) (F0 m 0 ls []) := by
  have hx := C.1
  have hb := C.2.1
  unfold fX12_many at h
  refine lv_aload_n hx hb dX12_many_0 rfl (lv_at hl 0 rfl) ?_
  refine g_1208 (i := 9) C hH (jM_0 hW) rfl dX12_many_1 ?_
  refine lv_aload_n hx hb dX12_many_4 rfl (lv_at hl 0 rfl) ?_
  refine g_1205 C hH (jM_0 hW) dX12_many_5 ?_
  obtain ⟨b1, h⟩ := gd_e h
  refine h_iald C hH (jM_9 hW).1 (jM_9 hW).2.1 b1 dX12_many_8 ?_
  exact h_iret C hr hk hH hS rfl (by cases h; rfl) dX12_many_9
theorem c_X12_many {l : Launch} {ω : WW} (hW : FWM ω) {μ : Mem} {rr : Int32} (h : fX12_many μ = some rr) : Con l yX12_many cX12_many 1 (some .int) 1 ω [.ref (wB ω + 0)] μ (some (.int rr)) μ :=
  con_of (by decide) (Nat.le_of_ble_eq_true rfl) (fun p e s m args below meth c ls C hr hk hl hH hS => wX12_many_e hW C hr hk hH hS (lv_sub hl [0] rfl) h)
set_option maxHeartbeats 4000000 in
set_option maxRecDepth 100000 in
theorem wX12_begins_s2 (hW : FWM ω) (C : Cx ω p s m args c cX12_begins 2 RX12) (hr : meth.sig.returnType = none) (hk : meth.locks = false) {μo : Mem} {x1 : Int32} {rec : Int32 → Mem → Option Mem} (hrec : ∀ (z1 : Int32) (ν : Mem) (H : Heap) (locs : List Loc) (ls : Array Slot), Hd ω ν H → FS ω s H locs → lv_has ls 2 [(0, .ref (wB ω + 0)), (1, .int z1)] → rec z1 ν = some μo → W p l e (rmd 2) s m args below meth c H locs 0 0 (MQ below (QR ω none μo) args s 0 0 (wA ω)) (F0 m 2 ls [])) {K : Mem → Option Mem} (hK : ∀ (ν : Mem) (H : Heap) (locs : List Loc) (ls : Array Slot), Hd ω ν H → FS ω s H locs → lv_has ls 2 [(0, .ref (wB ω + 0))] → K ν = some μo → W p l e (rmd 2) s m args below meth c H locs 0 0 (MQ below (QR ω none μo) args s 0 0 (wA ω)) (F0 m 21 ls [])) {μ : Mem} {H : Heap} {locs : List Loc} {ls : Array Slot} (hH : Hd ω μ H) (hS : FS ω s H locs) (hl : lv_has ls 2 [(0, .ref (wB ω + 0)), (1, .int x1)]) (h : fX12_begins_s2 rec K x1 μ = some μo) : W p l e (rmd 2) s m args below meth c H locs 0 0 (MQ below (QR ω none μo) args s 0 0 (wA ω)) (F0 m 2 ls []) := by
  have hx := C.1
  have hb := C.2.1
  unfold fX12_begins_s2 at h
  refine lv_iload_n hx hb dX12_begins_2 rfl (lv_at hl 1 rfl) ?_
  refine lv_bipush (v := 39) hx hb dX12_begins_3 (by decide) ?_
  refine lv_icmp_ge (tgt := 21) hx hb dX12_begins_5 (by decide) (fun hc => ?_) (fun hc => ?_)
  · have h := ite_t hc h
    exact hK _ H locs ls hH hS (lv_sub hl [0] rfl) h
  · have h := ite_f hc h
    refine lv_aload_n hx hb dX12_begins_8 rfl (lv_at hl 0 rfl) ?_
    refine g_1235 (i := 32) C hH (jM_0 hW) rfl dX12_begins_9 ?_
    refine lv_iload_n hx hb dX12_begins_12 rfl (lv_at hl 1 rfl) ?_
    refine lv_iconst (v := 0) hx hb dX12_begins_13 (by decide) ?_
    obtain ⟨b1, h⟩ := gd_e h
    obtain ⟨μ2, e3, h⟩ := bd_e h
    refine h_iast C hH hS (jM_32 hW).1 (jM_32 hW).2.1 b1 dX12_begins_14 (fun H locs hH hS => ?_)
    have hH := Hd.to e3 hH
    refine lv_iinc (v := x1 + 1) (lv' := [(1, .int (x1 + 1)), (0, .ref (wB ω + 0))]) hx hb dX12_begins_15 hl (k := 1) rfl rfl (by decide) rfl (fun ls hl => ?_)
    refine lv_goto (tgt := 2) hx hb dX12_begins_18 (by decide) ?_
    exact hrec _ _ H locs ls hH hS (lv_sub hl [1, 0] rfl) h
theorem wX12_begins_l2 (hW : FWM ω) (C : Cx ω p s m args c cX12_begins 2 RX12) (hr : meth.sig.returnType = none) (hk : meth.locks = false) {μo : Mem} {K : Mem → Option Mem} (hK : ∀ (ν : Mem) (H : Heap) (locs : List Loc) (ls : Array Slot), Hd ω ν H → FS ω s H locs → lv_has ls 2 [(0, .ref (wB ω + 0))] → K ν = some μo → W p l e (rmd 2) s m args below meth c H locs 0 0 (MQ below (QR ω none μo) args s 0 0 (wA ω)) (F0 m 21 ls [])) : ∀ (n : Nat) (x1 : Int32) (μ : Mem) (H : Heap) (locs : List Loc) (ls : Array Slot), Hd ω μ H → FS ω s H locs → lv_has ls 2 [(0, .ref (wB ω + 0)), (1, .int x1)] → fX12_begins_l2 K n x1 μ = some μo → W p l e (rmd 2) s m args below meth c H locs 0 0 (MQ below (QR ω none μo) args s 0 0 (wA ω)) (F0 m 2 ls []) := by
  intro n
  induction n with
  | zero => intro x1 μ H locs ls hH hS hl h; cases h
  | succ n ih => intro x1 μ H locs ls hH hS hl h; exact wX12_begins_s2 hW C hr hk ih hK hH hS hl h
set_option maxHeartbeats 4000000 in
set_option maxRecDepth 100000 in
theorem wX12_begins_s23 (hW : FWM ω) (C : Cx ω p s m args c cX12_begins 2 RX12) (hr : meth.sig.returnType = none) (hk : meth.locks = false) {μo : Mem} {x1 : Int32} {rec : Int32 → Mem → Option Mem} (hrec : ∀ (z1 : Int32) (ν : Mem) (H : Heap) (locs : List Loc) (ls : Array Slot), Hd ω ν H → FS ω s H locs → lv_has ls 2 [(0, .ref (wB ω + 0)), (1, .int z1)] → rec z1 ν = some μo → W p l e (rmd 2) s m args below meth c H locs 0 0 (MQ below (QR ω none μo) args s 0 0 (wA ω)) (F0 m 23 ls [])) {K : Mem → Option Mem} (hK : ∀ (ν : Mem) (H : Heap) (locs : List Loc) (ls : Array Slot), Hd ω ν H → FS ω s H locs → lv_has ls 2 [(0, .ref (wB ω + 0))] → K ν = some μo → W p l e (rmd 2) s m args below meth c H locs 0 0 (MQ below (QR ω none μo) args s 0 0 (wA ω)) (F0 m 83 ls [])) {μ : Mem} {H : Heap} {locs : List Loc} {ls : Array Slot} (hH : Hd ω μ H) (hS : FS ω s H locs) (hl : lv_has ls 2 [(0, .ref (wB ω + 0)), (1, .int x1)]) (h : fX12_begins_s23 rec K x1 μ = some μo) : W p l e (rmd 2) s m args below meth c H locs 0 0 (MQ below (QR ω none μo) args s 0 0 (wA ω)) (F0 m 23 ls []) := by
  have hx := C.1
  have hb := C.2.1
  unfold fX12_begins_s23 at h
  refine lv_iload_n hx hb dX12_begins_23 rfl (lv_at hl 1 rfl) ?_
  refine lv_aload_n hx hb dX12_begins_24 rfl (lv_at hl 0 rfl) ?_
  obtain ⟨r6, e5, h⟩ := b1_e h
  refine cVi (as := []) (rest := [.int x1]) (c_X12_many hW e5) C hl.1 hH hS rfl (jM_0 hW) rfl wd_31 wd_1182 mw_X12_many wd_1180 rfl (rm_ok (by decide) (by decide)) (Nat.le_of_ble_eq_true rfl) ⟨Nat.zero_le _, Nat.zero_le _⟩ (by decide) dX12_begins_25 (fun H locs hH hS => ?_)
  refine lv_icmp_ge (tgt := 83) hx hb dX12_begins_28 (by decide) (fun hc => ?_) (fun hc => ?_)
  · have h := ite_t hc h
    exact hK _ H locs ls hH hS (lv_sub hl [0] rfl) h
  · have h := ite_f hc h
    refine lv_aload_n hx hb dX12_begins_31 rfl (lv_at hl 0 rfl) ?_
    refine g_1235 (i := 32) C hH (jM_0 hW) rfl dX12_begins_32 ?_
    refine lv_bipush (v := 6) hx hb dX12_begins_35 (by decide) ?_
    refine lv_iload_n hx hb dX12_begins_37 rfl (lv_at hl 1 rfl) ?_
    refine lv_iadd hx hb dX12_begins_38 ?_
    refine lv_aload_n hx hb dX12_begins_39 rfl (lv_at hl 0 rfl) ?_
    refine g_1210 (i := 11) C hH (jM_0 hW) rfl dX12_begins_40 ?_
    refine lv_bipush (v := 6) hx hb dX12_begins_43 (by decide) ?_
    refine lv_aload_n hx hb dX12_begins_45 rfl (lv_at hl 0 rfl) ?_
    refine g_1205 C hH (jM_0 hW) dX12_begins_46 ?_
    refine lv_imul hx hb dX12_begins_49 ?_
    refine lv_iload_n hx hb dX12_begins_50 rfl (lv_at hl 1 rfl) ?_
    refine lv_iadd hx hb dX12_begins_51 ?_
    obtain ⟨b7, h⟩ := gd_e h
    refine h_iald C hH (jM_11 hW).1 (jM_11 hW).2.1 b7 dX12_begins_52 ?_
    obtain ⟨b8, h⟩ := gd_e h
    obtain ⟨μ9, e10, h⟩ := bd_e h
    refine h_iast C hH hS (jM_32 hW).1 (jM_32 hW).2.1 b8 dX12_begins_53 (fun H locs hH hS => ?_)
    have hH := Hd.to e10 hH
    refine lv_aload_n hx hb dX12_begins_54 rfl (lv_at hl 0 rfl) ?_
    refine g_1235 (i := 32) C hH (jM_0 hW) rfl dX12_begins_55 ?_
    refine lv_bipush (v := 12) hx hb dX12_begins_58 (by decide) ?_
    refine lv_iload_n hx hb dX12_begins_60 rfl (lv_at hl 1 rfl) ?_
    refine lv_iadd hx hb dX12_begins_61 ?_
    refine lv_aload_n hx hb dX12_begins_62 rfl (lv_at hl 0 rfl) ?_
    refine g_1211 (i := 12) C hH (jM_0 hW) rfl dX12_begins_63 ?_
    refine lv_bipush (v := 6) hx hb dX12_begins_66 (by decide) ?_
    refine lv_aload_n hx hb dX12_begins_68 rfl (lv_at hl 0 rfl) ?_
    refine g_1205 C hH (jM_0 hW) dX12_begins_69 ?_
    refine lv_imul hx hb dX12_begins_72 ?_
    refine lv_iload_n hx hb dX12_begins_73 rfl (lv_at hl 1 rfl) ?_
    refine lv_iadd hx hb dX12_begins_74 ?_
    obtain ⟨b11, h⟩ := gd_e h
    refine h_iald C hH (jM_12 hW).1 (jM_12 hW).2.1 b11 dX12_begins_75 ?_
    obtain ⟨b12, h⟩ := gd_e h
    obtain ⟨μ13, e14, h⟩ := bd_e h
    refine h_iast C hH hS (jM_32 hW).1 (jM_32 hW).2.1 b12 dX12_begins_76 (fun H locs hH hS => ?_)
    have hH := Hd.to e14 hH
    refine lv_iinc (v := x1 + 1) (lv' := [(1, .int (x1 + 1)), (0, .ref (wB ω + 0))]) hx hb dX12_begins_77 hl (k := 1) rfl rfl (by decide) rfl (fun ls hl => ?_)
    refine lv_goto (tgt := 23) hx hb dX12_begins_80 (by decide) ?_
    exact hrec _ _ H locs ls hH hS (lv_sub hl [1, 0] rfl) h
theorem wX12_begins_l23 (hW : FWM ω) (C : Cx ω p s m args c cX12_begins 2 RX12) (hr : meth.sig.returnType = none) (hk : meth.locks = false) {μo : Mem} {K : Mem → Option Mem} (hK : ∀ (ν : Mem) (H : Heap) (locs : List Loc) (ls : Array Slot), Hd ω ν H → FS ω s H locs → lv_has ls 2 [(0, .ref (wB ω + 0))] → K ν = some μo → W p l e (rmd 2) s m args below meth c H locs 0 0 (MQ below (QR ω none μo) args s 0 0 (wA ω)) (F0 m 83 ls [])) : ∀ (n : Nat) (x1 : Int32) (μ : Mem) (H : Heap) (locs : List Loc) (ls : Array Slot), Hd ω μ H → FS ω s H locs → lv_has ls 2 [(0, .ref (wB ω + 0)), (1, .int x1)] → fX12_begins_l23 K n x1 μ = some μo → W p l e (rmd 2) s m args below meth c H locs 0 0 (MQ below (QR ω none μo) args s 0 0 (wA ω)) (F0 m 23 ls []) := by
  intro n
  induction n with
  | zero => intro x1 μ H locs ls hH hS hl h; cases h
  | succ n ih => intro x1 μ H locs ls hH hS hl h; exact wX12_begins_s23 hW C hr hk ih hK hH hS hl h
set_option maxHeartbeats 4000000 in
set_option maxRecDepth 100000 in
theorem wX12_begins_e (hW : FWM ω) (C : Cx ω p s m args c cX12_begins 2 RX12) (hr : meth.sig.returnType = none) (hk : meth.locks = false) {μo : Mem} {μ : Mem} {H : Heap} {locs : List Loc} {ls : Array Slot} (hH : Hd ω μ H) (hS : FS ω s H locs) (hl : lv_has ls 2 [(0, .ref (wB ω + 0))]) (h : fX12_begins μ = some μo) : W p l e (rmd 2) s m args below meth c H locs 0 0 (MQ below (QR ω none μo) args s 0 0 (wA ω)) (F0 m 0 ls []) := by
  have hx := C.1
  have hb := C.2.1
  unfold fX12_begins at h
  refine lv_iconst (v := 0) hx hb dX12_begins_0 (by decide) ?_
  refine lv_istore_n (lv' := [(1, .int 0), (0, .ref (wB ω + 0))]) hx hb dX12_begins_1 rfl hl (by decide) rfl (fun ls hl => ?_)
  refine wX12_begins_l2 hW C hr hk (fun μ4 H locs ls hH hS hl h => ?_) FU _ _ H locs ls hH hS (lv_sub hl [1, 0] rfl) h
  refine lv_iconst (v := 0) hx hb dX12_begins_21 (by decide) ?_
  refine lv_istore_n (lv' := [(1, .int 0), (0, .ref (wB ω + 0))]) hx hb dX12_begins_22 rfl hl (by decide) rfl (fun ls hl => ?_)
  refine wX12_begins_l23 hW C hr hk (fun μ15 H locs ls hH hS hl h => ?_) FU _ _ H locs ls hH hS (lv_sub hl [1, 0] rfl) h
  refine lv_aload_n hx hb dX12_begins_83 rfl (lv_at hl 0 rfl) ?_
  refine g_1235 (i := 32) C hH (jM_0 hW) rfl dX12_begins_84 ?_
  refine lv_bipush (v := 37) hx hb dX12_begins_87 (by decide) ?_
  refine lv_aload_n hx hb dX12_begins_89 rfl (lv_at hl 0 rfl) ?_
  refine g_1214 (i := 15) C hH (jM_0 hW) rfl dX12_begins_90 ?_
  refine lv_aload_n hx hb dX12_begins_93 rfl (lv_at hl 0 rfl) ?_
  refine g_1205 C hH (jM_0 hW) dX12_begins_94 ?_
  obtain ⟨b16, h⟩ := gd_e h
  refine h_iald C hH (jM_15 hW).1 (jM_15 hW).2.1 b16 dX12_begins_97 ?_
  obtain ⟨μ17, e18, h⟩ := bd_e h
  refine h_iast C hH hS (jM_32 hW).1 (jM_32 hW).2.1 (by decide) dX12_begins_98 (fun H locs hH hS => ?_)
  have hH := Hd.to e18 hH
  refine lv_aload_n hx hb dX12_begins_99 rfl (lv_at hl 0 rfl) ?_
  refine lv_aload_n hx hb dX12_begins_100 rfl (lv_at hl 0 rfl) ?_
  refine g_1217 (i := 18) C hH (jM_0 hW) rfl dX12_begins_101 ?_
  refine lv_aload_n hx hb dX12_begins_104 rfl (lv_at hl 0 rfl) ?_
  refine g_1205 C hH (jM_0 hW) dX12_begins_105 ?_
  obtain ⟨b19, h⟩ := gd_e h
  refine h_iald C hH (jM_18 hW).1 (jM_18 hW).2.1 b19 dX12_begins_108 ?_
  obtain ⟨μ20, e21, h⟩ := bd_e h
  refine p_1236 C hH hS (jM_0 hW) dX12_begins_109 (fun H locs hH hS => ?_)
  have hH := Hd.to e21 hH
  refine lv_aload_n hx hb dX12_begins_112 rfl (lv_at hl 0 rfl) ?_
  refine lv_iconst (v := 0) hx hb dX12_begins_113 (by decide) ?_
  obtain ⟨μ22, e23, h⟩ := bd_e h
  refine p_1237 C hH hS (jM_0 hW) rfl rfl dX12_begins_114 (fun H locs hH hS => ?_)
  have hH := Hd.to e23 hH
  exact h_vret C hr hk hH hS (by cases h; rfl) dX12_begins_117
theorem c_X12_begins {l : Launch} {ω : WW} (hW : FWM ω) {μ : Mem} {μo : Mem} (h : fX12_begins μ = some μo) : Con l yX12_begins cX12_begins 2 none 2 ω [.ref (wB ω + 0)] μ none μo :=
  con_of (by decide) (Nat.le_of_ble_eq_true rfl) (fun p e s m args below meth c ls C hr hk hl hH hS => wX12_begins_e hW C hr hk hH hS (lv_sub hl [0] rfl) h)
set_option maxHeartbeats 4000000 in
set_option maxRecDepth 100000 in
theorem wX12_copies_s2 (hW : FWM ω) (C : Cx ω p s m args c cX12_copies 2 RX12) (hr : meth.sig.returnType = none) (hk : meth.locks = false) {μo : Mem} {x1 : Int32} {rec : Int32 → Mem → Option Mem} (hrec : ∀ (z1 : Int32) (ν : Mem) (H : Heap) (locs : List Loc) (ls : Array Slot), Hd ω ν H → FS ω s H locs → lv_has ls 2 [(0, .ref (wB ω + 0)), (1, .int z1)] → rec z1 ν = some μo → W p l e (rmd 1) s m args below meth c H locs 0 0 (MQ below (QR ω none μo) args s 0 0 (wA ω)) (F0 m 2 ls [])) {K : Mem → Option Mem} (hK : ∀ (ν : Mem) (H : Heap) (locs : List Loc) (ls : Array Slot), Hd ω ν H → FS ω s H locs → lv_has ls 2 [(0, .ref (wB ω + 0))] → K ν = some μo → W p l e (rmd 1) s m args below meth c H locs 0 0 (MQ below (QR ω none μo) args s 0 0 (wA ω)) (F0 m 26 ls [])) {μ : Mem} {H : Heap} {locs : List Loc} {ls : Array Slot} (hH : Hd ω μ H) (hS : FS ω s H locs) (hl : lv_has ls 2 [(0, .ref (wB ω + 0)), (1, .int x1)]) (h : fX12_copies_s2 rec K x1 μ = some μo) : W p l e (rmd 1) s m args below meth c H locs 0 0 (MQ below (QR ω none μo) args s 0 0 (wA ω)) (F0 m 2 ls []) := by
  have hx := C.1
  have hb := C.2.1
  unfold fX12_copies_s2 at h
  refine lv_iload_n hx hb dX12_copies_2 rfl (lv_at hl 1 rfl) ?_
  refine lv_bipush (v := 39) hx hb dX12_copies_3 (by decide) ?_
  refine lv_icmp_ge (tgt := 26) hx hb dX12_copies_5 (by decide) (fun hc => ?_) (fun hc => ?_)
  · have h := ite_t hc h
    exact hK _ H locs ls hH hS (lv_sub hl [0] rfl) h
  · have h := ite_f hc h
    refine lv_aload_n hx hb dX12_copies_8 rfl (lv_at hl 0 rfl) ?_
    refine g_1235 (i := 32) C hH (jM_0 hW) rfl dX12_copies_9 ?_
    refine lv_iload_n hx hb dX12_copies_12 rfl (lv_at hl 1 rfl) ?_
    refine lv_aload_n hx hb dX12_copies_13 rfl (lv_at hl 0 rfl) ?_
    refine g_1234 (i := 31) C hH (jM_0 hW) rfl dX12_copies_14 ?_
    refine lv_iload_n hx hb dX12_copies_17 rfl (lv_at hl 1 rfl) ?_
    obtain ⟨b1, h⟩ := gd_e h
    refine h_iald C hH (jM_31 hW).1 (jM_31 hW).2.1 b1 dX12_copies_18 ?_
    obtain ⟨b2, h⟩ := gd_e h
    obtain ⟨μ3, e4, h⟩ := bd_e h
    refine h_iast C hH hS (jM_32 hW).1 (jM_32 hW).2.1 b2 dX12_copies_19 (fun H locs hH hS => ?_)
    have hH := Hd.to e4 hH
    refine lv_iinc (v := x1 + 1) (lv' := [(1, .int (x1 + 1)), (0, .ref (wB ω + 0))]) hx hb dX12_copies_20 hl (k := 1) rfl rfl (by decide) rfl (fun ls hl => ?_)
    refine lv_goto (tgt := 2) hx hb dX12_copies_23 (by decide) ?_
    exact hrec _ _ H locs ls hH hS (lv_sub hl [1, 0] rfl) h
theorem wX12_copies_l2 (hW : FWM ω) (C : Cx ω p s m args c cX12_copies 2 RX12) (hr : meth.sig.returnType = none) (hk : meth.locks = false) {μo : Mem} {K : Mem → Option Mem} (hK : ∀ (ν : Mem) (H : Heap) (locs : List Loc) (ls : Array Slot), Hd ω ν H → FS ω s H locs → lv_has ls 2 [(0, .ref (wB ω + 0))] → K ν = some μo → W p l e (rmd 1) s m args below meth c H locs 0 0 (MQ below (QR ω none μo) args s 0 0 (wA ω)) (F0 m 26 ls [])) : ∀ (n : Nat) (x1 : Int32) (μ : Mem) (H : Heap) (locs : List Loc) (ls : Array Slot), Hd ω μ H → FS ω s H locs → lv_has ls 2 [(0, .ref (wB ω + 0)), (1, .int x1)] → fX12_copies_l2 K n x1 μ = some μo → W p l e (rmd 1) s m args below meth c H locs 0 0 (MQ below (QR ω none μo) args s 0 0 (wA ω)) (F0 m 2 ls []) := by
  intro n
  induction n with
  | zero => intro x1 μ H locs ls hH hS hl h; cases h
  | succ n ih => intro x1 μ H locs ls hH hS hl h; exact wX12_copies_s2 hW C hr hk ih hK hH hS hl h
set_option maxHeartbeats 4000000 in
set_option maxRecDepth 100000 in
theorem wX12_copies_e (hW : FWM ω) (C : Cx ω p s m args c cX12_copies 2 RX12) (hr : meth.sig.returnType = none) (hk : meth.locks = false) {μo : Mem} {μ : Mem} {H : Heap} {locs : List Loc} {ls : Array Slot} (hH : Hd ω μ H) (hS : FS ω s H locs) (hl : lv_has ls 2 [(0, .ref (wB ω + 0))]) (h : fX12_copies μ = some μo) : W p l e (rmd 1) s m args below meth c H locs 0 0 (MQ below (QR ω none μo) args s 0 0 (wA ω)) (F0 m 0 ls []) := by
  have hx := C.1
  have hb := C.2.1
  unfold fX12_copies at h
  refine lv_iconst (v := 0) hx hb dX12_copies_0 (by decide) ?_
  refine lv_istore_n (lv' := [(1, .int 0), (0, .ref (wB ω + 0))]) hx hb dX12_copies_1 rfl hl (by decide) rfl (fun ls hl => ?_)
  refine wX12_copies_l2 hW C hr hk (fun μ5 H locs ls hH hS hl h => ?_) FU _ _ H locs ls hH hS (lv_sub hl [1, 0] rfl) h
  refine lv_aload_n hx hb dX12_copies_26 rfl (lv_at hl 0 rfl) ?_
  refine lv_aload_n hx hb dX12_copies_27 rfl (lv_at hl 0 rfl) ?_
  refine g_1217 (i := 18) C hH (jM_0 hW) rfl dX12_copies_28 ?_
  refine lv_aload_n hx hb dX12_copies_31 rfl (lv_at hl 0 rfl) ?_
  refine g_1205 C hH (jM_0 hW) dX12_copies_32 ?_
  obtain ⟨b6, h⟩ := gd_e h
  refine h_iald C hH (jM_18 hW).1 (jM_18 hW).2.1 b6 dX12_copies_35 ?_
  obtain ⟨μ7, e8, h⟩ := bd_e h
  refine p_1236 C hH hS (jM_0 hW) dX12_copies_36 (fun H locs hH hS => ?_)
  have hH := Hd.to e8 hH
  refine lv_aload_n hx hb dX12_copies_39 rfl (lv_at hl 0 rfl) ?_
  refine lv_iconst (v := 0) hx hb dX12_copies_40 (by decide) ?_
  obtain ⟨μ9, e10, h⟩ := bd_e h
  refine p_1237 C hH hS (jM_0 hW) rfl rfl dX12_copies_41 (fun H locs hH hS => ?_)
  have hH := Hd.to e10 hH
  exact h_vret C hr hk hH hS (by cases h; rfl) dX12_copies_44
theorem c_X12_copies {l : Launch} {ω : WW} (hW : FWM ω) {μ : Mem} {μo : Mem} (h : fX12_copies μ = some μo) : Con l yX12_copies cX12_copies 2 none 1 ω [.ref (wB ω + 0)] μ none μo :=
  con_of (by decide) (Nat.le_of_ble_eq_true rfl) (fun p e s m args below meth c ls C hr hk hl hH hS => wX12_copies_e hW C hr hk hH hS (lv_sub hl [0] rfl) h)
set_option maxHeartbeats 4000000 in
set_option maxRecDepth 100000 in
theorem wX12_copiesStill_e (hW : FWM ω) (C : Cx ω p s m args c cX12_copiesStill 1 RX12) (hr : meth.sig.returnType = none) (hk : meth.locks = false) {μo : Mem} {μ : Mem} {H : Heap} {locs : List Loc} {ls : Array Slot} (hH : Hd ω μ H) (hS : FS ω s H locs) (hl : lv_has ls 1 [(0, .ref (wB ω + 0))]) (h : fX12_copiesStill μ = some μo) : W p l e (rmd 2) s m args below meth c H locs 0 0 (MQ below (QR ω none μo) args s 0 0 (wA ω)) (F0 m 0 ls []) := by
  have hx := C.1
  have hb := C.2.1
  unfold fX12_copiesStill at h
  refine lv_aload_n hx hb dX12_copiesStill_0 rfl (lv_at hl 0 rfl) ?_
  obtain ⟨μ2, e1, h⟩ := b1_e h
  refine cVv (as := []) (rest := []) (c_X12_copies hW e1) C hl.1 hH hS rfl (jM_0 hW) rfl wd_54 wd_1510 mw_X12_copies wd_1508 rfl (rm_ok (by decide) (by decide)) (Nat.le_of_ble_eq_true rfl) ⟨Nat.zero_le _, Nat.zero_le _⟩ (by decide) dX12_copiesStill_1 (fun H locs hH hS => ?_)
  refine lv_aload_n hx hb dX12_copiesStill_4 rfl (lv_at hl 0 rfl) ?_
  refine lv_iconst (v := 1) hx hb dX12_copiesStill_5 (by decide) ?_
  obtain ⟨μ3, e4, h⟩ := bd_e h
  refine p_1237 C hH hS (jM_0 hW) rfl rfl dX12_copiesStill_6 (fun H locs hH hS => ?_)
  have hH := Hd.to e4 hH
  exact h_vret C hr hk hH hS (by cases h; rfl) dX12_copiesStill_9
theorem c_X12_copiesStill {l : Launch} {ω : WW} (hW : FWM ω) {μ : Mem} {μo : Mem} (h : fX12_copiesStill μ = some μo) : Con l yX12_copiesStill cX12_copiesStill 1 none 2 ω [.ref (wB ω + 0)] μ none μo :=
  con_of (by decide) (Nat.le_of_ble_eq_true rfl) (fun p e s m args below meth c ls C hr hk hl hH hS => wX12_copiesStill_e hW C hr hk hH hS (lv_sub hl [0] rfl) h)
set_option maxHeartbeats 4000000 in
set_option maxRecDepth 100000 in
theorem wX12_panesAt_e (hW : FWM ω) (C : Cx ω p s m args c cX12_panesAt 2 RX12) (hr : meth.sig.returnType = some .int) (hk : meth.locks = false) {rr : Int32} {μ : Mem} {x1 : Int32} {H : Heap} {locs : List Loc} {ls : Array Slot} (hH : Hd ω μ H) (hS : FS ω s H locs) (hl : lv_has ls 2 [(0, .ref (wB ω + 0)), (1, .int x1)]) (h : fX12_panesAt x1 μ = some rr) : W p l e (rmd 1) s m args below meth c H locs 0 0 (MQ below (QR ω (some (.int rr)) μ) args s 0 0 (wA ω)) (F0 m 0 ls []) := by
  have hx := C.1
  have hb := C.2.1
  unfold fX12_panesAt at h
  refine lv_aload_n hx hb dX12_panesAt_0 rfl (lv_at hl 0 rfl) ?_
  refine g_1209 (i := 10) C hH (jM_0 hW) rfl dX12_panesAt_1 ?_
  refine lv_bipush (v := 6) hx hb dX12_panesAt_4 (by decide) ?_
  refine lv_aload_n hx hb dX12_panesAt_6 rfl (lv_at hl 0 rfl) ?_
  refine g_1205 C hH (jM_0 hW) dX12_panesAt_7 ?_
  refine lv_imul hx hb dX12_panesAt_10 ?_
  refine lv_iload_n hx hb dX12_panesAt_11 rfl (lv_at hl 1 rfl) ?_
  refine lv_iadd hx hb dX12_panesAt_12 ?_
  obtain ⟨b1, h⟩ := gd_e h
  refine h_iald C hH (jM_10 hW).1 (jM_10 hW).2.1 b1 dX12_panesAt_13 ?_
  exact h_iret C hr hk hH hS rfl (by cases h; rfl) dX12_panesAt_14
theorem c_X12_panesAt {l : Launch} {ω : WW} {x1 : Int32} (hW : FWM ω) {μ : Mem} {rr : Int32} (h : fX12_panesAt x1 μ = some rr) : Con l yX12_panesAt cX12_panesAt 2 (some .int) 1 ω [.ref (wB ω + 0), .int x1] μ (some (.int rr)) μ :=
  con_of (by decide) (Nat.le_of_ble_eq_true rfl) (fun p e s m args below meth c ls C hr hk hl hH hS => wX12_panesAt_e hW C hr hk hH hS (lv_sub hl [0, 1] rfl) h)
set_option maxHeartbeats 4000000 in
set_option maxRecDepth 100000 in
theorem wX12_termOf_b104 (hW : FWM ω) (C : Cx ω p s m args c cX12_termOf 8 RX12) (hr : meth.sig.returnType = some .int) (hk : meth.locks = false) {rr : Int32} {μo : Mem} {x2 : Int32} {x3 : Int32} {x4 : Int32} {x5 : Int32} {x6 : Int32} {x7 : Int32} {rec : Int32 → Int32 → Mem → Option (Int32 × Mem)} (hrec : ∀ (z3 : Int32) (z4 : Int32) (ν : Mem) (H : Heap) (locs : List Loc) (ls : Array Slot), Hd ω ν H → FS ω s H locs → lv_has ls 8 [(0, .ref (wB ω + 0)), (2, .int x2), (3, .int z3), (4, .int z4)] → rec z3 z4 ν = some (rr, μo) → W p l e (rmd 1) s m args below meth c H locs 0 0 (MQ below (QR ω (some (.int rr)) μo) args s 0 0 (wA ω)) (F0 m 5 ls [])) {μ : Mem} {H : Heap} {locs : List Loc} {ls : Array Slot} (hH : Hd ω μ H) (hS : FS ω s H locs) (hl : lv_has ls 8 [(0, .ref (wB ω + 0)), (2, .int x2), (3, .int x3), (4, .int x4), (5, .int x5), (6, .int x6), (7, .int x7)]) (h : fX12_termOf_b104 rec x2 x3 x4 x5 x6 x7 μ = some (rr, μo)) : W p l e (rmd 1) s m args below meth c H locs 0 0 (MQ below (QR ω (some (.int rr)) μo) args s 0 0 (wA ω)) (F0 m 104 ls []) := by
  have hx := C.1
  have hb := C.2.1
  unfold fX12_termOf_b104 at h
  refine lv_aload_n hx hb dX12_termOf_104 rfl (lv_at hl 0 rfl) ?_
  refine g_1232 (i := 30) C hH (jM_0 hW) rfl dX12_termOf_105 ?_
  refine lv_iload_n hx hb dX12_termOf_108 rfl (lv_at hl 2 rfl) ?_
  refine lv_iconst (v := 1) hx hb dX12_termOf_109 (by decide) ?_
  refine lv_isub hx hb dX12_termOf_110 ?_
  refine lv_iload hx hb dX12_termOf_111 (lv_at hl 4 rfl) ?_
  refine lv_iconst (v := 2) hx hb dX12_termOf_113 (by decide) ?_
  refine lv_icmp_ne (tgt := 125) hx hb dX12_termOf_114 (by decide) (fun hc => ?_) (fun hc => ?_)
  · have h := ite_f hc h
    refine lv_iload hx hb dX12_termOf_125 (lv_at hl 4 rfl) ?_
    refine lv_iconst (v := 3) hx hb dX12_termOf_127 (by decide) ?_
    refine lv_icmp_ne (tgt := 139) hx hb dX12_termOf_128 (by decide) (fun hc => ?_) (fun hc => ?_)
    · have h := ite_f hc h
      refine lv_iload hx hb dX12_termOf_139 (lv_at hl 4 rfl) ?_
      refine lv_iconst (v := 4) hx hb dX12_termOf_141 (by decide) ?_
      refine lv_icmp_ne (tgt := 153) hx hb dX12_termOf_142 (by decide) (fun hc => ?_) (fun hc => ?_)
      · have h := ite_f hc h
        refine lv_iload hx hb dX12_termOf_153 (lv_at hl 5 rfl) ?_
        refine lv_iload hx hb dX12_termOf_155 (lv_at hl 6 rfl) ?_
        obtain ⟨b10, h⟩ := gd_e h
        refine lv_idiv hx hb dX12_termOf_157 (dz_e b10) ?_
        obtain ⟨b11, h⟩ := gd_e h
        obtain ⟨μ12, e13, h⟩ := bd_e h
        refine h_iast C hH hS (jM_30 hW).1 (jM_30 hW).2.1 b11 dX12_termOf_158 (fun H locs hH hS => ?_)
        have hH := Hd.to e13 hH
        refine lv_iinc (v := x4 + 1) (lv' := [(4, .int (x4 + 1)), (0, .ref (wB ω + 0)), (2, .int x2), (3, .int x3), (5, .int x5), (6, .int x6), (7, .int x7)]) hx hb dX12_termOf_159 hl (k := 3) rfl rfl (by decide) rfl (fun ls hl => ?_)
        refine lv_goto (tgt := 5) hx hb dX12_termOf_162 (by decide) ?_
        exact hrec _ _ _ H locs ls hH hS (lv_sub hl [1, 2, 3, 0] rfl) h
      · have h := ite_t hc h
        refine lv_iload hx hb dX12_termOf_145 (lv_at hl 5 rfl) ?_
        refine lv_iload hx hb dX12_termOf_147 (lv_at hl 6 rfl) ?_
        refine lv_imul hx hb dX12_termOf_149 ?_
        refine lv_goto (tgt := 158) hx hb dX12_termOf_150 (by decide) ?_
        obtain ⟨b14, h⟩ := gd_e h
        obtain ⟨μ15, e16, h⟩ := bd_e h
        refine h_iast C hH hS (jM_30 hW).1 (jM_30 hW).2.1 b14 dX12_termOf_158 (fun H locs hH hS => ?_)
        have hH := Hd.to e16 hH
        refine lv_iinc (v := x4 + 1) (lv' := [(4, .int (x4 + 1)), (0, .ref (wB ω + 0)), (2, .int x2), (3, .int x3), (5, .int x5), (6, .int x6), (7, .int x7)]) hx hb dX12_termOf_159 hl (k := 3) rfl rfl (by decide) rfl (fun ls hl => ?_)
        refine lv_goto (tgt := 5) hx hb dX12_termOf_162 (by decide) ?_
        exact hrec _ _ _ H locs ls hH hS (lv_sub hl [1, 2, 3, 0] rfl) h
    · have h := ite_t hc h
      refine lv_iload hx hb dX12_termOf_131 (lv_at hl 5 rfl) ?_
      refine lv_iload hx hb dX12_termOf_133 (lv_at hl 6 rfl) ?_
      refine lv_isub hx hb dX12_termOf_135 ?_
      refine lv_goto (tgt := 158) hx hb dX12_termOf_136 (by decide) ?_
      obtain ⟨b17, h⟩ := gd_e h
      obtain ⟨μ18, e19, h⟩ := bd_e h
      refine h_iast C hH hS (jM_30 hW).1 (jM_30 hW).2.1 b17 dX12_termOf_158 (fun H locs hH hS => ?_)
      have hH := Hd.to e19 hH
      refine lv_iinc (v := x4 + 1) (lv' := [(4, .int (x4 + 1)), (0, .ref (wB ω + 0)), (2, .int x2), (3, .int x3), (5, .int x5), (6, .int x6), (7, .int x7)]) hx hb dX12_termOf_159 hl (k := 3) rfl rfl (by decide) rfl (fun ls hl => ?_)
      refine lv_goto (tgt := 5) hx hb dX12_termOf_162 (by decide) ?_
      exact hrec _ _ _ H locs ls hH hS (lv_sub hl [1, 2, 3, 0] rfl) h
  · have h := ite_t hc h
    refine lv_iload hx hb dX12_termOf_117 (lv_at hl 5 rfl) ?_
    refine lv_iload hx hb dX12_termOf_119 (lv_at hl 6 rfl) ?_
    refine lv_iadd hx hb dX12_termOf_121 ?_
    refine lv_goto (tgt := 158) hx hb dX12_termOf_122 (by decide) ?_
    obtain ⟨b20, h⟩ := gd_e h
    obtain ⟨μ21, e22, h⟩ := bd_e h
    refine h_iast C hH hS (jM_30 hW).1 (jM_30 hW).2.1 b20 dX12_termOf_158 (fun H locs hH hS => ?_)
    have hH := Hd.to e22 hH
    refine lv_iinc (v := x4 + 1) (lv' := [(4, .int (x4 + 1)), (0, .ref (wB ω + 0)), (2, .int x2), (3, .int x3), (5, .int x5), (6, .int x6), (7, .int x7)]) hx hb dX12_termOf_159 hl (k := 3) rfl rfl (by decide) rfl (fun ls hl => ?_)
    refine lv_goto (tgt := 5) hx hb dX12_termOf_162 (by decide) ?_
    exact hrec _ _ _ H locs ls hH hS (lv_sub hl [1, 2, 3, 0] rfl) h
set_option maxHeartbeats 4000000 in
set_option maxRecDepth 100000 in
theorem wX12_termOf_s5 (hW : FWM ω) (C : Cx ω p s m args c cX12_termOf 8 RX12) (hr : meth.sig.returnType = some .int) (hk : meth.locks = false) {rr : Int32} {μo : Mem} {x2 : Int32} {x3 : Int32} {x4 : Int32} {rec : Int32 → Int32 → Mem → Option (Int32 × Mem)} (hrec : ∀ (z3 : Int32) (z4 : Int32) (ν : Mem) (H : Heap) (locs : List Loc) (ls : Array Slot), Hd ω ν H → FS ω s H locs → lv_has ls 8 [(0, .ref (wB ω + 0)), (2, .int x2), (3, .int z3), (4, .int z4)] → rec z3 z4 ν = some (rr, μo) → W p l e (rmd 1) s m args below meth c H locs 0 0 (MQ below (QR ω (some (.int rr)) μo) args s 0 0 (wA ω)) (F0 m 5 ls [])) {μ : Mem} {H : Heap} {locs : List Loc} {ls : Array Slot} (hH : Hd ω μ H) (hS : FS ω s H locs) (hl : lv_has ls 8 [(0, .ref (wB ω + 0)), (2, .int x2), (3, .int x3), (4, .int x4)]) (h : fX12_termOf_s5 rec x2 x3 x4 μ = some (rr, μo)) : W p l e (rmd 1) s m args below meth c H locs 0 0 (MQ below (QR ω (some (.int rr)) μo) args s 0 0 (wA ω)) (F0 m 5 ls []) := by
  have hx := C.1
  have hb := C.2.1
  unfold fX12_termOf_s5 at h
  refine lv_iload hx hb dX12_termOf_5 (lv_at hl 3 rfl) ?_
  refine lv_iload_n hx hb dX12_termOf_7 rfl (lv_at hl 1 rfl) ?_
  refine lv_icmp_ge (tgt := 165) hx hb dX12_termOf_8 (by decide) (fun hc => ?_) (fun hc => ?_)
  · have h := ite_t hc h
    refine lv_aload_n hx hb dX12_termOf_165 rfl (lv_at hl 0 rfl) ?_
    refine g_1232 (i := 30) C hH (jM_0 hW) rfl dX12_termOf_166 ?_
    refine lv_iconst (v := 0) hx hb dX12_termOf_169 (by decide) ?_
    refine h_iald C hH (jM_30 hW).1 (jM_30 hW).2.1 (by decide) dX12_termOf_170 ?_
    refine h_topi (y := μ.1 30 0) rfl ?_
    exact h_iret C hr hk hH hS rfl (by cases h; rfl) dX12_termOf_171
  · have h := ite_f hc h
    refine lv_aload_n hx hb dX12_termOf_11 rfl (lv_at hl 0 rfl) ?_
    refine g_1227 (i := 26) C hH (jM_0 hW) rfl dX12_termOf_12 ?_
    refine lv_iload hx hb dX12_termOf_15 (lv_at hl 3 rfl) ?_
    obtain ⟨b1, h⟩ := gd_e h
    refine h_iald C hH (jM_26 hW).1 (jM_26 hW).2.1 b1 dX12_termOf_17 ?_
    obtain ⟨y2, e3, h⟩ := bd_e h
    refine h_topi e3 ?_
    refine lv_istore (lv' := [(5, .int y2), (0, .ref (wB ω + 0)), (2, .int x2), (3, .int x3), (4, .int x4)]) hx hb dX12_termOf_18 hl (by decide) rfl (fun ls hl => ?_)
    refine lv_iload hx hb dX12_termOf_20 (lv_at hl 0 rfl) ?_
    refine lv_iconst (v := 2) hx hb dX12_termOf_22 (by decide) ?_
    refine lv_icmp_ge (tgt := 65) hx hb dX12_termOf_23 (by decide) (fun hc => ?_) (fun hc => ?_)
    · have h := ite_t hc h
      refine lv_iinc (v := x3 + (-1)) (lv' := [(3, .int (x3 + (-1))), (5, .int y2), (0, .ref (wB ω + 0)), (2, .int x2), (4, .int x4)]) hx hb dX12_termOf_65 hl (k := 3) rfl rfl (by decide) rfl (fun ls hl => ?_)
      refine lv_aload_n hx hb dX12_termOf_68 rfl (lv_at hl 2 rfl) ?_
      refine g_1232 (i := 30) C hH (jM_0 hW) rfl dX12_termOf_69 ?_
      refine lv_iload_n hx hb dX12_termOf_72 rfl (lv_at hl 0 rfl) ?_
      refine lv_iconst (v := 1) hx hb dX12_termOf_73 (by decide) ?_
      refine lv_isub hx hb dX12_termOf_74 ?_
      obtain ⟨b4, h⟩ := gd_e h
      refine h_iald C hH (jM_30 hW).1 (jM_30 hW).2.1 b4 dX12_termOf_75 ?_
      obtain ⟨y5, e6, h⟩ := bd_e h
      refine h_topi e6 ?_
      refine lv_istore (lv' := [(6, .int y5), (3, .int (x3 + (-1))), (5, .int y2), (0, .ref (wB ω + 0)), (2, .int x2), (4, .int x4)]) hx hb dX12_termOf_76 hl (by decide) rfl (fun ls hl => ?_)
      refine lv_aload_n hx hb dX12_termOf_78 rfl (lv_at hl 3 rfl) ?_
      refine g_1232 (i := 30) C hH (jM_0 hW) rfl dX12_termOf_79 ?_
      refine lv_iload_n hx hb dX12_termOf_82 rfl (lv_at hl 1 rfl) ?_
      obtain ⟨b7, h⟩ := gd_e h
      refine h_iald C hH (jM_30 hW).1 (jM_30 hW).2.1 b7 dX12_termOf_83 ?_
      obtain ⟨y8, e9, h⟩ := bd_e h
      refine h_topi e9 ?_
      refine lv_istore (lv' := [(7, .int y8), (6, .int y5), (3, .int (x3 + (-1))), (5, .int y2), (0, .ref (wB ω + 0)), (2, .int x2), (4, .int x4)]) hx hb dX12_termOf_84 hl (by decide) rfl (fun ls hl => ?_)
      refine lv_iload hx hb dX12_termOf_86 (lv_at hl 3 rfl) ?_
      refine lv_iconst (v := 5) hx hb dX12_termOf_88 (by decide) ?_
      refine lv_icmp_ne (tgt := 104) hx hb dX12_termOf_89 (by decide) (fun hc => ?_) (fun hc => ?_)
      · have h := ite_f hc h
        exact wX12_termOf_b104 hW C hr hk hrec hH hS (lv_sub hl [4, 5, 2, 6, 3, 1, 0] rfl) h
      · have h := ite_t hc h
        refine lv_iload hx hb dX12_termOf_92 (lv_at hl 0 rfl) ?_
        refine lv_if_ne (tgt := 104) hx hb dX12_termOf_94 (by decide) (fun hc => ?_) (fun hc => ?_)
        · have h := ite_f hc h
          exact wX12_termOf_b104 hW C hr hk hrec hH hS (lv_sub hl [4, 5, 2, 6, 3, 1, 0] rfl) h
        · have h := ite_t hc h
          refine lv_aload_n hx hb dX12_termOf_97 rfl (lv_at hl 4 rfl) ?_
          refine lv_iconst (v := 1) hx hb dX12_termOf_98 (by decide) ?_
          obtain ⟨μ23, e24, h⟩ := bd_e h
          refine p_1233 C hH hS (jM_0 hW) rfl rfl dX12_termOf_99 (fun H locs hH hS => ?_)
          have hH := Hd.to e24 hH
          refine lv_iconst (v := 0) hx hb dX12_termOf_102 (by decide) ?_
          exact h_iret C hr hk hH hS rfl (by cases h; rfl) dX12_termOf_103
    · have h := ite_f hc h
      refine lv_aload_n hx hb dX12_termOf_26 rfl (lv_at hl 1 rfl) ?_
      refine g_1232 (i := 30) C hH (jM_0 hW) rfl dX12_termOf_27 ?_
      refine lv_iload_n hx hb dX12_termOf_30 rfl (lv_at hl 3 rfl) ?_
      refine lv_iload hx hb dX12_termOf_31 (lv_at hl 0 rfl) ?_
      refine lv_if_ne (tgt := 46) hx hb dX12_termOf_33 (by decide) (fun hc => ?_) (fun hc => ?_)
      · have h := ite_f hc h
        refine lv_aload_n hx hb dX12_termOf_46 rfl (lv_at hl 1 rfl) ?_
        refine g_1231 (i := 29) C hH (jM_0 hW) rfl dX12_termOf_47 ?_
        refine lv_aload_n hx hb dX12_termOf_50 rfl (lv_at hl 1 rfl) ?_
        refine g_1228 (i := 27) C hH (jM_0 hW) rfl dX12_termOf_51 ?_
        refine lv_iload hx hb dX12_termOf_54 (lv_at hl 4 rfl) ?_
        obtain ⟨b25, h⟩ := gd_e h
        refine h_iald C hH (jM_27 hW).1 (jM_27 hW).2.1 b25 dX12_termOf_56 ?_
        obtain ⟨b26, h⟩ := gd_e h
        refine h_iald C hH (jM_29 hW).1 (jM_29 hW).2.1 b26 dX12_termOf_57 ?_
        obtain ⟨b27, h⟩ := gd_e h
        obtain ⟨μ28, e29, h⟩ := bd_e h
        refine h_iast C hH hS (jM_30 hW).1 (jM_30 hW).2.1 b27 dX12_termOf_58 (fun H locs hH hS => ?_)
        have hH := Hd.to e29 hH
        refine lv_iinc (v := x3 + 1) (lv' := [(3, .int (x3 + 1)), (5, .int y2), (0, .ref (wB ω + 0)), (2, .int x2), (4, .int x4)]) hx hb dX12_termOf_59 hl (k := 3) rfl rfl (by decide) rfl (fun ls hl => ?_)
        refine lv_goto (tgt := 159) hx hb dX12_termOf_62 (by decide) ?_
        refine lv_iinc (v := x4 + 1) (lv' := [(4, .int (x4 + 1)), (3, .int (x3 + 1)), (5, .int y2), (0, .ref (wB ω + 0)), (2, .int x2)]) hx hb dX12_termOf_159 hl (k := 4) rfl rfl (by decide) rfl (fun ls hl => ?_)
        refine lv_goto (tgt := 5) hx hb dX12_termOf_162 (by decide) ?_
        exact hrec _ _ _ H locs ls hH hS (lv_sub hl [3, 4, 1, 0] rfl) h
      · have h := ite_t hc h
        refine lv_aload_n hx hb dX12_termOf_36 rfl (lv_at hl 1 rfl) ?_
        refine g_1228 (i := 27) C hH (jM_0 hW) rfl dX12_termOf_37 ?_
        refine lv_iload hx hb dX12_termOf_40 (lv_at hl 4 rfl) ?_
        obtain ⟨b30, h⟩ := gd_e h
        refine h_iald C hH (jM_27 hW).1 (jM_27 hW).2.1 b30 dX12_termOf_42 ?_
        refine lv_goto (tgt := 58) hx hb dX12_termOf_43 (by decide) ?_
        obtain ⟨b31, h⟩ := gd_e h
        obtain ⟨μ32, e33, h⟩ := bd_e h
        refine h_iast C hH hS (jM_30 hW).1 (jM_30 hW).2.1 b31 dX12_termOf_58 (fun H locs hH hS => ?_)
        have hH := Hd.to e33 hH
        refine lv_iinc (v := x3 + 1) (lv' := [(3, .int (x3 + 1)), (5, .int y2), (0, .ref (wB ω + 0)), (2, .int x2), (4, .int x4)]) hx hb dX12_termOf_59 hl (k := 3) rfl rfl (by decide) rfl (fun ls hl => ?_)
        refine lv_goto (tgt := 159) hx hb dX12_termOf_62 (by decide) ?_
        refine lv_iinc (v := x4 + 1) (lv' := [(4, .int (x4 + 1)), (3, .int (x3 + 1)), (5, .int y2), (0, .ref (wB ω + 0)), (2, .int x2)]) hx hb dX12_termOf_159 hl (k := 4) rfl rfl (by decide) rfl (fun ls hl => ?_)
        refine lv_goto (tgt := 5) hx hb dX12_termOf_162 (by decide) ?_
        exact hrec _ _ _ H locs ls hH hS (lv_sub hl [3, 4, 1, 0] rfl) h
theorem wX12_termOf_l5 (hW : FWM ω) (C : Cx ω p s m args c cX12_termOf 8 RX12) (hr : meth.sig.returnType = some .int) (hk : meth.locks = false) {rr : Int32} {μo : Mem} {x2 : Int32} : ∀ (n : Nat) (x3 : Int32) (x4 : Int32) (μ : Mem) (H : Heap) (locs : List Loc) (ls : Array Slot), Hd ω μ H → FS ω s H locs → lv_has ls 8 [(0, .ref (wB ω + 0)), (2, .int x2), (3, .int x3), (4, .int x4)] → fX12_termOf_l5 x2 n x3 x4 μ = some (rr, μo) → W p l e (rmd 1) s m args below meth c H locs 0 0 (MQ below (QR ω (some (.int rr)) μo) args s 0 0 (wA ω)) (F0 m 5 ls []) := by
  intro n
  induction n with
  | zero => intro x3 x4 μ H locs ls hH hS hl h; cases h
  | succ n ih => intro x3 x4 μ H locs ls hH hS hl h; exact wX12_termOf_s5 hW C hr hk ih hH hS hl h
set_option maxHeartbeats 4000000 in
set_option maxRecDepth 100000 in
theorem wX12_termOf_e (hW : FWM ω) (C : Cx ω p s m args c cX12_termOf 8 RX12) (hr : meth.sig.returnType = some .int) (hk : meth.locks = false) {rr : Int32} {μo : Mem} {x1 : Int32} {x2 : Int32} {μ : Mem} {H : Heap} {locs : List Loc} {ls : Array Slot} (hH : Hd ω μ H) (hS : FS ω s H locs) (hl : lv_has ls 8 [(0, .ref (wB ω + 0)), (1, .int x1), (2, .int x2)]) (h : fX12_termOf x1 x2 μ = some (rr, μo)) : W p l e (rmd 1) s m args below meth c H locs 0 0 (MQ below (QR ω (some (.int rr)) μo) args s 0 0 (wA ω)) (F0 m 0 ls []) := by
  have hx := C.1
  have hb := C.2.1
  unfold fX12_termOf at h
  refine lv_iconst (v := 0) hx hb dX12_termOf_0 (by decide) ?_
  refine lv_istore_n (lv' := [(3, .int 0), (0, .ref (wB ω + 0)), (1, .int x1), (2, .int x2)]) hx hb dX12_termOf_1 rfl hl (by decide) rfl (fun ls hl => ?_)
  refine lv_iload_n hx hb dX12_termOf_2 rfl (lv_at hl 2 rfl) ?_
  refine lv_istore (lv' := [(4, .int x1), (3, .int 0), (0, .ref (wB ω + 0)), (1, .int x1), (2, .int x2)]) hx hb dX12_termOf_3 hl (by decide) rfl (fun ls hl => ?_)
  exact wX12_termOf_l5 hW C hr hk FU _ _ _ H locs ls hH hS (lv_sub hl [2, 4, 1, 0] rfl) h
theorem c_X12_termOf {l : Launch} {ω : WW} {x1 : Int32} {x2 : Int32} (hW : FWM ω) {μ : Mem} {rr : Int32} {μo : Mem} (h : fX12_termOf x1 x2 μ = some (rr, μo)) : Con l yX12_termOf cX12_termOf 8 (some .int) 1 ω [.ref (wB ω + 0), .int x1, .int x2] μ (some (.int rr)) μo :=
  con_of (by decide) (Nat.le_of_ble_eq_true rfl) (fun p e s m args below meth c ls C hr hk hl hH hS => wX12_termOf_e hW C hr hk hH hS (lv_sub hl [0, 1, 2] rfl) h)
set_option maxHeartbeats 4000000 in
set_option maxRecDepth 100000 in
theorem wX12_lawTells_s39 (hW : FWM ω) (C : Cx ω p s m args c cX12_lawTells 7 RX12) (hr : meth.sig.returnType = some .int) (hk : meth.locks = false) {rr : Int32} {μo : Mem} {x3 : Int32} {x4 : Int32} {rec : Int32 → Mem → Option (Int32 × Mem)} (hrec : ∀ (z4 : Int32) (ν : Mem) (H : Heap) (locs : List Loc) (ls : Array Slot), Hd ω ν H → FS ω s H locs → lv_has ls 7 [(0, .ref (wB ω + 0)), (3, .int x3), (4, .int z4)] → rec z4 ν = some (rr, μo) → W p l e (rmd 2) s m args below meth c H locs 0 0 (MQ below (QR ω (some (.int rr)) μo) args s 0 0 (wA ω)) (F0 m 39 ls [])) {K : Int32 → Mem → Option (Int32 × Mem)} (hK : ∀ (z4 : Int32) (ν : Mem) (H : Heap) (locs : List Loc) (ls : Array Slot), Hd ω ν H → FS ω s H locs → lv_has ls 7 [(0, .ref (wB ω + 0)), (4, .int z4)] → K z4 ν = some (rr, μo) → W p l e (rmd 2) s m args below meth c H locs 0 0 (MQ below (QR ω (some (.int rr)) μo) args s 0 0 (wA ω)) (F0 m 119 ls [])) {μ : Mem} {H : Heap} {locs : List Loc} {ls : Array Slot} (hH : Hd ω μ H) (hS : FS ω s H locs) (hl : lv_has ls 7 [(0, .ref (wB ω + 0)), (3, .int x3), (4, .int x4)]) (h : fX12_lawTells_s39 rec K x3 x4 μ = some (rr, μo)) : W p l e (rmd 2) s m args below meth c H locs 0 0 (MQ below (QR ω (some (.int rr)) μo) args s 0 0 (wA ω)) (F0 m 39 ls []) := by
  have hx := C.1
  have hb := C.2.1
  unfold fX12_lawTells_s39 at h
  refine lv_iload hx hb dX12_lawTells_39 (lv_at hl 2 rfl) ?_
  refine lv_aload_n hx hb dX12_lawTells_41 rfl (lv_at hl 0 rfl) ?_
  refine g_1219 (i := 20) C hH (jM_0 hW) rfl dX12_lawTells_42 ?_
  refine lv_iload_n hx hb dX12_lawTells_45 rfl (lv_at hl 1 rfl) ?_
  obtain ⟨b10, h⟩ := gd_e h
  refine h_iald C hH (jM_20 hW).1 (jM_20 hW).2.1 b10 dX12_lawTells_46 ?_
  refine lv_icmp_ge (tgt := 159) hx hb dX12_lawTells_47 (by decide) (fun hc => ?_) (fun hc => ?_)
  · have h := ite_t hc h
    refine lv_iconst (v := 0) hx hb dX12_lawTells_159 (by decide) ?_
    exact h_iret C hr hk hH hS rfl (by cases h; rfl) dX12_lawTells_160
  · have h := ite_f hc h
    refine lv_aload_n hx hb dX12_lawTells_50 rfl (lv_at hl 0 rfl) ?_
    refine g_1221 (i := 21) C hH (jM_0 hW) rfl dX12_lawTells_51 ?_
    refine lv_iload hx hb dX12_lawTells_54 (lv_at hl 2 rfl) ?_
    obtain ⟨b11, h⟩ := gd_e h
    refine h_zald C hH (jM_21 hW).1 (jM_21 hW).2.1 b11 dX12_lawTells_56 ?_
    refine lv_if_eq (tgt := 119) hx hb dX12_lawTells_57 (by decide) (fun hc => ?_) (fun hc => ?_)
    · have h := ite_t hc h
      exact hK _ _ H locs ls hH hS (lv_sub hl [0, 2] rfl) h
    · have h := ite_f hc h
      refine lv_aload_n hx hb dX12_lawTells_60 rfl (lv_at hl 0 rfl) ?_
      refine lv_aload_n hx hb dX12_lawTells_61 rfl (lv_at hl 0 rfl) ?_
      refine g_1222 (i := 22) C hH (jM_0 hW) rfl dX12_lawTells_62 ?_
      refine lv_iload hx hb dX12_lawTells_65 (lv_at hl 2 rfl) ?_
      obtain ⟨b12, h⟩ := gd_e h
      refine h_iald C hH (jM_22 hW).1 (jM_22 hW).2.1 b12 dX12_lawTells_67 ?_
      refine lv_aload_n hx hb dX12_lawTells_68 rfl (lv_at hl 0 rfl) ?_
      refine g_1223 (i := 23) C hH (jM_0 hW) rfl dX12_lawTells_69 ?_
      refine lv_iload hx hb dX12_lawTells_72 (lv_at hl 2 rfl) ?_
      obtain ⟨b13, h⟩ := gd_e h
      refine h_iald C hH (jM_23 hW).1 (jM_23 hW).2.1 b13 dX12_lawTells_74 ?_
      obtain ⟨r16, μ15, e14, h⟩ := b2_e h
      refine cVi (as := [.int (μ.1 22 x4.toNatClampNeg), .int (μ.1 23 x4.toNatClampNeg)]) (rest := []) (c_X12_termOf hW e14) C hl.1 hH hS rfl (jM_0 hW) rfl wd_59 wd_1530 mw_X12_termOf wd_1528 rfl (rm_ok (by decide) (by decide)) (Nat.le_of_ble_eq_true rfl) ⟨Nat.zero_le _, Nat.zero_le _⟩ (by decide) dX12_lawTells_75 (fun H locs hH hS => ?_)
      refine lv_istore (lv' := [(5, .int r16), (0, .ref (wB ω + 0)), (3, .int x3), (4, .int x4)]) hx hb dX12_lawTells_78 hl (by decide) rfl (fun ls hl => ?_)
      refine lv_aload_n hx hb dX12_lawTells_80 rfl (lv_at hl 1 rfl) ?_
      refine lv_aload_n hx hb dX12_lawTells_81 rfl (lv_at hl 1 rfl) ?_
      refine g_1223 (i := 23) C hH (jM_0 hW) rfl dX12_lawTells_82 ?_
      refine lv_iload hx hb dX12_lawTells_85 (lv_at hl 3 rfl) ?_
      obtain ⟨b17, h⟩ := gd_e h
      refine h_iald C hH (jM_23 hW).1 (jM_23 hW).2.1 b17 dX12_lawTells_87 ?_
      refine lv_aload_n hx hb dX12_lawTells_88 rfl (lv_at hl 1 rfl) ?_
      refine g_1224 (i := 24) C hH (jM_0 hW) rfl dX12_lawTells_89 ?_
      refine lv_iload hx hb dX12_lawTells_92 (lv_at hl 3 rfl) ?_
      obtain ⟨b18, h⟩ := gd_e h
      refine h_iald C hH (jM_24 hW).1 (jM_24 hW).2.1 b18 dX12_lawTells_94 ?_
      obtain ⟨r21, μ20, e19, h⟩ := b2_e h
      refine cVi (as := [.int (μ15.1 23 x4.toNatClampNeg), .int (μ15.1 24 x4.toNatClampNeg)]) (rest := []) (c_X12_termOf hW e19) C hl.1 hH hS rfl (jM_0 hW) rfl wd_59 wd_1530 mw_X12_termOf wd_1528 rfl (rm_ok (by decide) (by decide)) (Nat.le_of_ble_eq_true rfl) ⟨Nat.zero_le _, Nat.zero_le _⟩ (by decide) dX12_lawTells_95 (fun H locs hH hS => ?_)
      refine lv_istore (lv' := [(6, .int r21), (5, .int r16), (0, .ref (wB ω + 0)), (3, .int x3), (4, .int x4)]) hx hb dX12_lawTells_98 hl (by decide) rfl (fun ls hl => ?_)
      refine lv_aload_n hx hb dX12_lawTells_100 rfl (lv_at hl 2 rfl) ?_
      refine g_1233 C hH (jM_0 hW) dX12_lawTells_101 ?_
      refine lv_if_eq (tgt := 109) hx hb dX12_lawTells_104 (by decide) (fun hc => ?_) (fun hc => ?_)
      · have h := ite_t hc h
        refine lv_iload hx hb dX12_lawTells_109 (lv_at hl 1 rfl) ?_
        refine lv_iload hx hb dX12_lawTells_111 (lv_at hl 0 rfl) ?_
        refine lv_icmp_lt (tgt := 119) hx hb dX12_lawTells_113 (by decide) (fun hc => ?_) (fun hc => ?_)
        · have h := ite_t hc h
          exact hK _ _ H locs ls hH hS (lv_sub hl [2, 4] rfl) h
        · have h := ite_f hc h
          refine lv_goto (tgt := 153) hx hb dX12_lawTells_116 (by decide) ?_
          refine lv_iinc (v := x4 + 1) (lv' := [(4, .int (x4 + 1)), (6, .int r21), (5, .int r16), (0, .ref (wB ω + 0)), (3, .int x3)]) hx hb dX12_lawTells_153 hl (k := 4) rfl rfl (by decide) rfl (fun ls hl => ?_)
          refine lv_goto (tgt := 39) hx hb dX12_lawTells_156 (by decide) ?_
          exact hrec _ _ H locs ls hH hS (lv_sub hl [3, 4, 0] rfl) h
      · have h := ite_f hc h
        refine lv_iconst (v := 0) hx hb dX12_lawTells_107 (by decide) ?_
        exact h_iret C hr hk hH hS rfl (by cases h; rfl) dX12_lawTells_108
theorem wX12_lawTells_l39 (hW : FWM ω) (C : Cx ω p s m args c cX12_lawTells 7 RX12) (hr : meth.sig.returnType = some .int) (hk : meth.locks = false) {rr : Int32} {μo : Mem} {x3 : Int32} {K : Int32 → Mem → Option (Int32 × Mem)} (hK : ∀ (z4 : Int32) (ν : Mem) (H : Heap) (locs : List Loc) (ls : Array Slot), Hd ω ν H → FS ω s H locs → lv_has ls 7 [(0, .ref (wB ω + 0)), (4, .int z4)] → K z4 ν = some (rr, μo) → W p l e (rmd 2) s m args below meth c H locs 0 0 (MQ below (QR ω (some (.int rr)) μo) args s 0 0 (wA ω)) (F0 m 119 ls [])) : ∀ (n : Nat) (x4 : Int32) (μ : Mem) (H : Heap) (locs : List Loc) (ls : Array Slot), Hd ω μ H → FS ω s H locs → lv_has ls 7 [(0, .ref (wB ω + 0)), (3, .int x3), (4, .int x4)] → fX12_lawTells_l39 K x3 n x4 μ = some (rr, μo) → W p l e (rmd 2) s m args below meth c H locs 0 0 (MQ below (QR ω (some (.int rr)) μo) args s 0 0 (wA ω)) (F0 m 39 ls []) := by
  intro n
  induction n with
  | zero => intro x4 μ H locs ls hH hS hl h; cases h
  | succ n ih => intro x4 μ H locs ls hH hS hl h; exact wX12_lawTells_s39 hW C hr hk ih hK hH hS hl h
set_option maxHeartbeats 4000000 in
set_option maxRecDepth 100000 in
theorem wX12_lawTells_b119 (hW : FWM ω) (C : Cx ω p s m args c cX12_lawTells 7 RX12) (hr : meth.sig.returnType = some .int) (hk : meth.locks = false) {rr : Int32} {μo : Mem} {x4 : Int32} {μ : Mem} {H : Heap} {locs : List Loc} {ls : Array Slot} (hH : Hd ω μ H) (hS : FS ω s H locs) (hl : lv_has ls 7 [(0, .ref (wB ω + 0)), (4, .int x4)]) (h : fX12_lawTells_b119 x4 μ = some (rr, μo)) : W p l e (rmd 2) s m args below meth c H locs 0 0 (MQ below (QR ω (some (.int rr)) μo) args s 0 0 (wA ω)) (F0 m 119 ls []) := by
  have hx := C.1
  have hb := C.2.1
  unfold fX12_lawTells_b119 at h
  refine lv_aload_n hx hb dX12_lawTells_119 rfl (lv_at hl 0 rfl) ?_
  refine lv_aload_n hx hb dX12_lawTells_120 rfl (lv_at hl 0 rfl) ?_
  refine g_1224 (i := 24) C hH (jM_0 hW) rfl dX12_lawTells_121 ?_
  refine lv_iload hx hb dX12_lawTells_124 (lv_at hl 1 rfl) ?_
  obtain ⟨b24, h⟩ := gd_e h
  refine h_iald C hH (jM_24 hW).1 (jM_24 hW).2.1 b24 dX12_lawTells_126 ?_
  refine lv_aload_n hx hb dX12_lawTells_127 rfl (lv_at hl 0 rfl) ?_
  refine g_1225 (i := 25) C hH (jM_0 hW) rfl dX12_lawTells_128 ?_
  refine lv_iload hx hb dX12_lawTells_131 (lv_at hl 1 rfl) ?_
  obtain ⟨b25, h⟩ := gd_e h
  refine h_iald C hH (jM_25 hW).1 (jM_25 hW).2.1 b25 dX12_lawTells_133 ?_
  obtain ⟨r28, μ27, e26, h⟩ := b2_e h
  refine cVi (as := [.int (μ.1 24 x4.toNatClampNeg), .int (μ.1 25 x4.toNatClampNeg)]) (rest := []) (c_X12_termOf hW e26) C hl.1 hH hS rfl (jM_0 hW) rfl wd_59 wd_1530 mw_X12_termOf wd_1528 rfl (rm_ok (by decide) (by decide)) (Nat.le_of_ble_eq_true rfl) ⟨Nat.zero_le _, Nat.zero_le _⟩ (by decide) dX12_lawTells_134 (fun H locs hH hS => ?_)
  refine lv_istore (lv' := [(5, .int r28), (0, .ref (wB ω + 0)), (4, .int x4)]) hx hb dX12_lawTells_137 hl (by decide) rfl (fun ls hl => ?_)
  refine lv_aload_n hx hb dX12_lawTells_139 rfl (lv_at hl 1 rfl) ?_
  refine g_1233 C hH (jM_0 hW) dX12_lawTells_140 ?_
  refine lv_if_eq (tgt := 150) hx hb dX12_lawTells_143 (by decide) (fun hc => ?_) (fun hc => ?_)
  · have h := ite_t hc h
    refine lv_iload hx hb dX12_lawTells_150 (lv_at hl 0 rfl) ?_
    exact h_iret C hr hk hH hS rfl (by cases h; rfl) dX12_lawTells_152
  · have h := ite_f hc h
    refine lv_iconst (v := 0) hx hb dX12_lawTells_146 (by decide) ?_
    refine lv_goto (tgt := 152) hx hb dX12_lawTells_147 (by decide) ?_
    exact h_iret C hr hk hH hS rfl (by cases h; rfl) dX12_lawTells_152
set_option maxHeartbeats 4000000 in
set_option maxRecDepth 100000 in
theorem wX12_lawTells_e (hW : FWM ω) (C : Cx ω p s m args c cX12_lawTells 7 RX12) (hr : meth.sig.returnType = some .int) (hk : meth.locks = false) {rr : Int32} {μo : Mem} {x1 : Int32} {x2 : Int32} {μ : Mem} {H : Heap} {locs : List Loc} {ls : Array Slot} (hH : Hd ω μ H) (hS : FS ω s H locs) (hl : lv_has ls 7 [(0, .ref (wB ω + 0)), (1, .int x1), (2, .int x2)]) (h : fX12_lawTells x1 x2 μ = some (rr, μo)) : W p l e (rmd 2) s m args below meth c H locs 0 0 (MQ below (QR ω (some (.int rr)) μo) args s 0 0 (wA ω)) (F0 m 0 ls []) := by
  have hx := C.1
  have hb := C.2.1
  unfold fX12_lawTells at h
  refine lv_iconst (v := 4) hx hb dX12_lawTells_0 (by decide) ?_
  refine lv_aload_n hx hb dX12_lawTells_1 rfl (lv_at hl 0 rfl) ?_
  refine g_1205 C hH (jM_0 hW) dX12_lawTells_2 ?_
  refine lv_imul hx hb dX12_lawTells_5 ?_
  refine lv_iload_n hx hb dX12_lawTells_6 rfl (lv_at hl 1 rfl) ?_
  refine lv_iadd hx hb dX12_lawTells_7 ?_
  obtain ⟨y1, e2, h⟩ := bd_e h
  refine h_topi e2 ?_
  refine lv_istore_n (lv' := [(3, .int y1), (0, .ref (wB ω + 0)), (1, .int x1), (2, .int x2)]) hx hb dX12_lawTells_8 rfl hl (by decide) rfl (fun ls hl => ?_)
  refine lv_aload_n hx hb dX12_lawTells_9 rfl (lv_at hl 1 rfl) ?_
  refine g_1218 (i := 19) C hH (jM_0 hW) rfl dX12_lawTells_10 ?_
  refine lv_iload_n hx hb dX12_lawTells_13 rfl (lv_at hl 0 rfl) ?_
  obtain ⟨b3, h⟩ := gd_e h
  refine h_iald C hH (jM_19 hW).1 (jM_19 hW).2.1 b3 dX12_lawTells_14 ?_
  refine lv_aload_n hx hb dX12_lawTells_15 rfl (lv_at hl 1 rfl) ?_
  refine g_1219 (i := 20) C hH (jM_0 hW) rfl dX12_lawTells_16 ?_
  refine lv_iload_n hx hb dX12_lawTells_19 rfl (lv_at hl 0 rfl) ?_
  obtain ⟨b4, h⟩ := gd_e h
  refine h_iald C hH (jM_20 hW).1 (jM_20 hW).2.1 b4 dX12_lawTells_20 ?_
  refine lv_icmp_ne (tgt := 26) hx hb dX12_lawTells_21 (by decide) (fun hc => ?_) (fun hc => ?_)
  · have h := ite_f hc h
    refine lv_aload_n hx hb dX12_lawTells_26 rfl (lv_at hl 1 rfl) ?_
    refine lv_iconst (v := 0) hx hb dX12_lawTells_27 (by decide) ?_
    obtain ⟨μ5, e6, h⟩ := bd_e h
    refine p_1233 C hH hS (jM_0 hW) rfl rfl dX12_lawTells_28 (fun H locs hH hS => ?_)
    have hH := Hd.to e6 hH
    refine lv_aload_n hx hb dX12_lawTells_31 rfl (lv_at hl 1 rfl) ?_
    refine g_1218 (i := 19) C hH (jM_0 hW) rfl dX12_lawTells_32 ?_
    refine lv_iload_n hx hb dX12_lawTells_35 rfl (lv_at hl 0 rfl) ?_
    obtain ⟨b7, h⟩ := gd_e h
    refine h_iald C hH (jM_19 hW).1 (jM_19 hW).2.1 b7 dX12_lawTells_36 ?_
    obtain ⟨y8, e9, h⟩ := bd_e h
    refine h_topi e9 ?_
    refine lv_istore (lv' := [(4, .int y8), (3, .int y1), (0, .ref (wB ω + 0)), (1, .int x1), (2, .int x2)]) hx hb dX12_lawTells_37 hl (by decide) rfl (fun ls hl => ?_)
    refine wX12_lawTells_l39 hW C hr hk (fun y22 μ23 H locs ls hH hS hl h => ?_) FU _ _ H locs ls hH hS (lv_sub hl [2, 1, 0] rfl) h
    exact wX12_lawTells_b119 hW C hr hk hH hS hl h
  · have h := ite_t hc h
    refine lv_iload_n hx hb dX12_lawTells_24 rfl (lv_at hl 3 rfl) ?_
    exact h_iret C hr hk hH hS rfl (by cases h; rfl) dX12_lawTells_25
theorem c_X12_lawTells {l : Launch} {ω : WW} {x1 : Int32} {x2 : Int32} (hW : FWM ω) {μ : Mem} {rr : Int32} {μo : Mem} (h : fX12_lawTells x1 x2 μ = some (rr, μo)) : Con l yX12_lawTells cX12_lawTells 7 (some .int) 2 ω [.ref (wB ω + 0), .int x1, .int x2] μ (some (.int rr)) μo :=
  con_of (by decide) (Nat.le_of_ble_eq_true rfl) (fun p e s m args below meth c ls C hr hk hl hH hS => wX12_lawTells_e hW C hr hk hH hS (lv_sub hl [0, 1, 2] rfl) h)
set_option maxHeartbeats 4000000 in
set_option maxRecDepth 100000 in
theorem wX12_within_e (C : Cx ω p s m args c cX12_within 3 RX12) (hr : meth.sig.returnType = some .int) (hk : meth.locks = false) {rr : Int32} {μ : Mem} {x0 : Int32} {x1 : Int32} {x2 : Int32} {H : Heap} {locs : List Loc} {ls : Array Slot} (hH : Hd ω μ H) (hS : FS ω s H locs) (hl : lv_has ls 3 [(0, .int x0), (1, .int x1), (2, .int x2)]) (h : fX12_within x0 x1 x2 = some rr) : W p l e (rmd 1) s m args below meth c H locs 0 0 (MQ below (QR ω (some (.int rr)) μ) args s 0 0 (wA ω)) (F0 m 0 ls []) := by
  have hx := C.1
  have hb := C.2.1
  unfold fX12_within at h
  refine lv_iload_n hx hb dX12_within_0 rfl (lv_at hl 0 rfl) ?_
  refine lv_iload_n hx hb dX12_within_1 rfl (lv_at hl 1 rfl) ?_
  refine lv_icmp_ge (tgt := 9) hx hb dX12_within_2 (by decide) (fun hc => ?_) (fun hc => ?_)
  · have h := ite_t hc h
    refine lv_iload_n hx hb dX12_within_9 rfl (lv_at hl 0 rfl) ?_
    refine lv_iload_n hx hb dX12_within_10 rfl (lv_at hl 2 rfl) ?_
    refine lv_icmp_le (tgt := 18) hx hb dX12_within_11 (by decide) (fun hc => ?_) (fun hc => ?_)
    · have h := ite_t hc h
      refine lv_iload_n hx hb dX12_within_18 rfl (lv_at hl 0 rfl) ?_
      exact h_iret C hr hk hH hS rfl (by cases h; rfl) dX12_within_19
    · have h := ite_f hc h
      refine lv_iload_n hx hb dX12_within_14 rfl (lv_at hl 2 rfl) ?_
      refine lv_goto (tgt := 19) hx hb dX12_within_15 (by decide) ?_
      exact h_iret C hr hk hH hS rfl (by cases h; rfl) dX12_within_19
  · have h := ite_f hc h
    refine lv_iload_n hx hb dX12_within_5 rfl (lv_at hl 1 rfl) ?_
    refine lv_goto (tgt := 19) hx hb dX12_within_6 (by decide) ?_
    exact h_iret C hr hk hH hS rfl (by cases h; rfl) dX12_within_19
theorem c_X12_within {l : Launch} {ω : WW} {x0 : Int32} {x1 : Int32} {x2 : Int32} {μ : Mem} {rr : Int32} (h : fX12_within x0 x1 x2 = some rr) : Con l yX12_within cX12_within 3 (some .int) 1 ω [.int x0, .int x1, .int x2] μ (some (.int rr)) μ :=
  con_of (by decide) (Nat.le_of_ble_eq_true rfl) (fun p e s m args below meth c ls C hr hk hl hH hS => wX12_within_e C hr hk hH hS (lv_sub hl [0, 1, 2] rfl) h)
set_option maxHeartbeats 4000000 in
set_option maxRecDepth 100000 in
theorem wX12_lawOf_s14 (hW : FWM ω) (C : Cx ω p s m args c cX12_lawOf 6 RX12) (hr : meth.sig.returnType = some .int) (hk : meth.locks = false) {rr : Int32} {μo : Mem} {x1 : Int32} {x2 : Int32} {x3 : Int32} {x4 : Int32} {x5 : Int32} {rec : Int32 → Mem → Option (Int32 × Mem)} (hrec : ∀ (z5 : Int32) (ν : Mem) (H : Heap) (locs : List Loc) (ls : Array Slot), Hd ω ν H → FS ω s H locs → lv_has ls 6 [(0, .ref (wB ω + 0)), (1, .int x1), (2, .int x2), (3, .int x3), (4, .int x4), (5, .int z5)] → rec z5 ν = some (rr, μo) → W p l e (rmd 3) s m args below meth c H locs 0 0 (MQ below (QR ω (some (.int rr)) μo) args s 0 0 (wA ω)) (F0 m 14 ls [])) {K : Mem → Option (Int32 × Mem)} (hK : ∀ (ν : Mem) (H : Heap) (locs : List Loc) (ls : Array Slot), Hd ω ν H → FS ω s H locs → lv_has ls 6 [(0, .ref (wB ω + 0)), (1, .int x1), (2, .int x2), (3, .int x3), (4, .int x4)] → K ν = some (rr, μo) → W p l e (rmd 3) s m args below meth c H locs 0 0 (MQ below (QR ω (some (.int rr)) μo) args s 0 0 (wA ω)) (F0 m 47 ls [])) {μ : Mem} {H : Heap} {locs : List Loc} {ls : Array Slot} (hH : Hd ω μ H) (hS : FS ω s H locs) (hl : lv_has ls 6 [(0, .ref (wB ω + 0)), (1, .int x1), (2, .int x2), (3, .int x3), (4, .int x4), (5, .int x5)]) (h : fX12_lawOf_s14 rec K x1 x5 μ = some (rr, μo)) : W p l e (rmd 3) s m args below meth c H locs 0 0 (MQ below (QR ω (some (.int rr)) μo) args s 0 0 (wA ω)) (F0 m 14 ls []) := by
  have hx := C.1
  have hb := C.2.1
  unfold fX12_lawOf_s14 at h
  refine lv_iload hx hb dX12_lawOf_14 (lv_at hl 5 rfl) ?_
  refine lv_iconst (v := 4) hx hb dX12_lawOf_16 (by decide) ?_
  refine lv_icmp_ge (tgt := 47) hx hb dX12_lawOf_17 (by decide) (fun hc => ?_) (fun hc => ?_)
  · have h := ite_t hc h
    exact hK _ H locs ls hH hS (lv_sub hl [0, 1, 2, 3, 4] rfl) h
  · have h := ite_f hc h
    refine lv_aload_n hx hb dX12_lawOf_20 rfl (lv_at hl 0 rfl) ?_
    refine g_1231 (i := 29) C hH (jM_0 hW) rfl dX12_lawOf_21 ?_
    refine lv_iconst (v := 1) hx hb dX12_lawOf_24 (by decide) ?_
    refine lv_iload hx hb dX12_lawOf_25 (lv_at hl 5 rfl) ?_
    refine lv_iadd hx hb dX12_lawOf_27 ?_
    refine lv_aload_n hx hb dX12_lawOf_28 rfl (lv_at hl 0 rfl) ?_
    refine g_1235 (i := 32) C hH (jM_0 hW) rfl dX12_lawOf_29 ?_
    refine lv_bipush (v := 6) hx hb dX12_lawOf_32 (by decide) ?_
    refine lv_iload hx hb dX12_lawOf_34 (lv_at hl 5 rfl) ?_
    refine lv_imul hx hb dX12_lawOf_36 ?_
    refine lv_iload_n hx hb dX12_lawOf_37 rfl (lv_at hl 1 rfl) ?_
    refine lv_iadd hx hb dX12_lawOf_38 ?_
    obtain ⟨b5, h⟩ := gd_e h
    refine h_iald C hH (jM_32 hW).1 (jM_32 hW).2.1 b5 dX12_lawOf_39 ?_
    obtain ⟨b6, h⟩ := gd_e h
    obtain ⟨μ7, e8, h⟩ := bd_e h
    refine h_iast C hH hS (jM_29 hW).1 (jM_29 hW).2.1 b6 dX12_lawOf_40 (fun H locs hH hS => ?_)
    have hH := Hd.to e8 hH
    refine lv_iinc (v := x5 + 1) (lv' := [(5, .int (x5 + 1)), (0, .ref (wB ω + 0)), (1, .int x1), (2, .int x2), (3, .int x3), (4, .int x4)]) hx hb dX12_lawOf_41 hl (k := 5) rfl rfl (by decide) rfl (fun ls hl => ?_)
    refine lv_goto (tgt := 14) hx hb dX12_lawOf_44 (by decide) ?_
    exact hrec _ _ H locs ls hH hS (lv_sub hl [1, 2, 3, 4, 5, 0] rfl) h
theorem wX12_lawOf_l14 (hW : FWM ω) (C : Cx ω p s m args c cX12_lawOf 6 RX12) (hr : meth.sig.returnType = some .int) (hk : meth.locks = false) {rr : Int32} {μo : Mem} {x1 : Int32} {x2 : Int32} {x3 : Int32} {x4 : Int32} {K : Mem → Option (Int32 × Mem)} (hK : ∀ (ν : Mem) (H : Heap) (locs : List Loc) (ls : Array Slot), Hd ω ν H → FS ω s H locs → lv_has ls 6 [(0, .ref (wB ω + 0)), (1, .int x1), (2, .int x2), (3, .int x3), (4, .int x4)] → K ν = some (rr, μo) → W p l e (rmd 3) s m args below meth c H locs 0 0 (MQ below (QR ω (some (.int rr)) μo) args s 0 0 (wA ω)) (F0 m 47 ls [])) : ∀ (n : Nat) (x5 : Int32) (μ : Mem) (H : Heap) (locs : List Loc) (ls : Array Slot), Hd ω μ H → FS ω s H locs → lv_has ls 6 [(0, .ref (wB ω + 0)), (1, .int x1), (2, .int x2), (3, .int x3), (4, .int x4), (5, .int x5)] → fX12_lawOf_l14 K x1 n x5 μ = some (rr, μo) → W p l e (rmd 3) s m args below meth c H locs 0 0 (MQ below (QR ω (some (.int rr)) μo) args s 0 0 (wA ω)) (F0 m 14 ls []) := by
  intro n
  induction n with
  | zero => intro x5 μ H locs ls hH hS hl h; cases h
  | succ n ih => intro x5 μ H locs ls hH hS hl h; exact wX12_lawOf_s14 hW C hr hk ih hK hH hS hl h
set_option maxHeartbeats 4000000 in
set_option maxRecDepth 100000 in
theorem wX12_lawOf_e (hW : FWM ω) (C : Cx ω p s m args c cX12_lawOf 6 RX12) (hr : meth.sig.returnType = some .int) (hk : meth.locks = false) {rr : Int32} {μo : Mem} {x1 : Int32} {x2 : Int32} {x3 : Int32} {x4 : Int32} {μ : Mem} {H : Heap} {locs : List Loc} {ls : Array Slot} (hH : Hd ω μ H) (hS : FS ω s H locs) (hl : lv_has ls 6 [(0, .ref (wB ω + 0)), (1, .int x1), (2, .int x2), (3, .int x3), (4, .int x4)]) (h : fX12_lawOf x1 x2 x3 x4 μ = some (rr, μo)) : W p l e (rmd 3) s m args below meth c H locs 0 0 (MQ below (QR ω (some (.int rr)) μo) args s 0 0 (wA ω)) (F0 m 0 ls []) := by
  have hx := C.1
  have hb := C.2.1
  unfold fX12_lawOf at h
  refine lv_aload_n hx hb dX12_lawOf_0 rfl (lv_at hl 0 rfl) ?_
  refine g_1231 (i := 29) C hH (jM_0 hW) rfl dX12_lawOf_1 ?_
  refine lv_iconst (v := 0) hx hb dX12_lawOf_4 (by decide) ?_
  refine lv_aload_n hx hb dX12_lawOf_5 rfl (lv_at hl 0 rfl) ?_
  refine lv_iload_n hx hb dX12_lawOf_6 rfl (lv_at hl 1 rfl) ?_
  obtain ⟨r2, e1, h⟩ := b1_e h
  refine cVi (as := [.int x1]) (rest := [.int 0, .ref (wB ω + 29)]) (c_X12_panesAt hW e1) C hl.1 hH hS rfl (jM_0 hW) rfl wd_55 wd_1514 mw_X12_panesAt wd_1512 rfl (rm_ok (by decide) (by decide)) (Nat.le_of_ble_eq_true rfl) ⟨Nat.zero_le _, Nat.zero_le _⟩ (by decide) dX12_lawOf_7 (fun H locs hH hS => ?_)
  obtain ⟨μ3, e4, h⟩ := bd_e h
  refine h_iast C hH hS (jM_29 hW).1 (jM_29 hW).2.1 (by decide) dX12_lawOf_10 (fun H locs hH hS => ?_)
  have hH := Hd.to e4 hH
  refine lv_iconst (v := 0) hx hb dX12_lawOf_11 (by decide) ?_
  refine lv_istore (lv' := [(5, .int 0), (0, .ref (wB ω + 0)), (1, .int x1), (2, .int x2), (3, .int x3), (4, .int x4)]) hx hb dX12_lawOf_12 hl (by decide) rfl (fun ls hl => ?_)
  refine wX12_lawOf_l14 hW C hr hk (fun μ9 H locs ls hH hS hl h => ?_) FU _ _ H locs ls hH hS (lv_sub hl [1, 2, 3, 4, 5, 0] rfl) h
  refine lv_aload_n hx hb dX12_lawOf_47 rfl (lv_at hl 0 rfl) ?_
  refine g_1231 (i := 29) C hH (jM_0 hW) rfl dX12_lawOf_48 ?_
  refine lv_iconst (v := 5) hx hb dX12_lawOf_51 (by decide) ?_
  refine lv_aload_n hx hb dX12_lawOf_52 rfl (lv_at hl 0 rfl) ?_
  refine g_1235 (i := 32) C hH (jM_0 hW) rfl dX12_lawOf_53 ?_
  refine lv_bipush (v := 36) hx hb dX12_lawOf_56 (by decide) ?_
  refine h_iald C hH (jM_32 hW).1 (jM_32 hW).2.1 (by decide) dX12_lawOf_58 ?_
  refine h_topi (y := μ9.1 32 36) rfl ?_
  obtain ⟨μ10, e11, h⟩ := bd_e h
  refine h_iast C hH hS (jM_29 hW).1 (jM_29 hW).2.1 (by decide) dX12_lawOf_59 (fun H locs hH hS => ?_)
  have hH := Hd.to e11 hH
  refine lv_aload_n hx hb dX12_lawOf_60 rfl (lv_at hl 0 rfl) ?_
  refine g_1231 (i := 29) C hH (jM_0 hW) rfl dX12_lawOf_61 ?_
  refine lv_bipush (v := 6) hx hb dX12_lawOf_64 (by decide) ?_
  refine lv_iload_n hx hb dX12_lawOf_66 rfl (lv_at hl 1 rfl) ?_
  obtain ⟨μ12, e13, h⟩ := bd_e h
  refine h_iast C hH hS (jM_29 hW).1 (jM_29 hW).2.1 (by decide) dX12_lawOf_67 (fun H locs hH hS => ?_)
  have hH := Hd.to e13 hH
  refine lv_aload_n hx hb dX12_lawOf_68 rfl (lv_at hl 0 rfl) ?_
  refine g_1231 (i := 29) C hH (jM_0 hW) rfl dX12_lawOf_69 ?_
  refine lv_bipush (v := 7) hx hb dX12_lawOf_72 (by decide) ?_
  refine lv_aload_n hx hb dX12_lawOf_74 rfl (lv_at hl 0 rfl) ?_
  refine g_1235 (i := 32) C hH (jM_0 hW) rfl dX12_lawOf_75 ?_
  refine lv_bipush (v := 24) hx hb dX12_lawOf_78 (by decide) ?_
  refine lv_iload_n hx hb dX12_lawOf_80 rfl (lv_at hl 1 rfl) ?_
  refine lv_iadd hx hb dX12_lawOf_81 ?_
  obtain ⟨b14, h⟩ := gd_e h
  refine h_iald C hH (jM_32 hW).1 (jM_32 hW).2.1 b14 dX12_lawOf_82 ?_
  obtain ⟨μ15, e16, h⟩ := bd_e h
  refine h_iast C hH hS (jM_29 hW).1 (jM_29 hW).2.1 (by decide) dX12_lawOf_83 (fun H locs hH hS => ?_)
  have hH := Hd.to e16 hH
  refine lv_aload_n hx hb dX12_lawOf_84 rfl (lv_at hl 0 rfl) ?_
  refine g_1231 (i := 29) C hH (jM_0 hW) rfl dX12_lawOf_85 ?_
  refine lv_bipush (v := 8) hx hb dX12_lawOf_88 (by decide) ?_
  refine lv_aload_n hx hb dX12_lawOf_90 rfl (lv_at hl 0 rfl) ?_
  refine g_1235 (i := 32) C hH (jM_0 hW) rfl dX12_lawOf_91 ?_
  refine lv_bipush (v := 30) hx hb dX12_lawOf_94 (by decide) ?_
  refine lv_iload_n hx hb dX12_lawOf_96 rfl (lv_at hl 1 rfl) ?_
  refine lv_iadd hx hb dX12_lawOf_97 ?_
  obtain ⟨b17, h⟩ := gd_e h
  refine h_iald C hH (jM_32 hW).1 (jM_32 hW).2.1 b17 dX12_lawOf_98 ?_
  obtain ⟨μ18, e19, h⟩ := bd_e h
  refine h_iast C hH hS (jM_29 hW).1 (jM_29 hW).2.1 (by decide) dX12_lawOf_99 (fun H locs hH hS => ?_)
  have hH := Hd.to e19 hH
  refine lv_aload_n hx hb dX12_lawOf_100 rfl (lv_at hl 0 rfl) ?_
  refine lv_iload_n hx hb dX12_lawOf_101 rfl (lv_at hl 2 rfl) ?_
  refine lv_iload_n hx hb dX12_lawOf_102 rfl (lv_at hl 3 rfl) ?_
  obtain ⟨r22, μ21, e20, h⟩ := b2_e h
  refine cVi (as := [.int x2, .int x3]) (rest := []) (c_X12_lawTells hW e20) C hl.1 hH hS rfl (jM_0 hW) rfl wd_58 wd_1526 mw_X12_lawTells wd_1524 rfl (rm_ok (by decide) (by decide)) (Nat.le_of_ble_eq_true rfl) ⟨Nat.zero_le _, Nat.zero_le _⟩ (by decide) dX12_lawOf_103 (fun H locs hH hS => ?_)
  refine lv_iconst (v := 0) hx hb dX12_lawOf_106 (by decide) ?_
  refine lv_iload hx hb dX12_lawOf_107 (lv_at hl 4 rfl) ?_
  obtain ⟨r24, e23, h⟩ := b1_e h
  refine cSi (as := [.int r22, .int 0, .int x4]) (rest := []) (c_X12_within e23) C hl.1 hH hS rfl wd_1533 mw_X12_within wd_1532 rfl (rm_ok (by decide) (by decide)) (Nat.le_of_ble_eq_true rfl) ⟨Nat.zero_le _, Nat.zero_le _⟩ dX12_lawOf_109 (fun H locs hH hS => ?_)
  exact h_iret C hr hk hH hS rfl (by cases h; rfl) dX12_lawOf_112
theorem c_X12_lawOf {l : Launch} {ω : WW} {x1 : Int32} {x2 : Int32} {x3 : Int32} {x4 : Int32} (hW : FWM ω) {μ : Mem} {rr : Int32} {μo : Mem} (h : fX12_lawOf x1 x2 x3 x4 μ = some (rr, μo)) : Con l yX12_lawOf cX12_lawOf 6 (some .int) 3 ω [.ref (wB ω + 0), .int x1, .int x2, .int x3, .int x4] μ (some (.int rr)) μo :=
  con_of (by decide) (Nat.le_of_ble_eq_true rfl) (fun p e s m args below meth c ls C hr hk hl hH hS => wX12_lawOf_e hW C hr hk hH hS (lv_sub hl [0, 1, 2, 3, 4] rfl) h)
set_option maxHeartbeats 4000000 in
set_option maxRecDepth 100000 in
theorem wX12_fadesOf_e (hW : FWM ω) (C : Cx ω p s m args c cX12_fadesOf 2 RX12) (hr : meth.sig.returnType = some .int) (hk : meth.locks = false) {rr : Int32} {μo : Mem} {x1 : Int32} {μ : Mem} {H : Heap} {locs : List Loc} {ls : Array Slot} (hH : Hd ω μ H) (hS : FS ω s H locs) (hl : lv_has ls 2 [(0, .ref (wB ω + 0)), (1, .int x1)]) (h : fX12_fadesOf x1 μ = some (rr, μo)) : W p l e (rmd 4) s m args below meth c H locs 0 0 (MQ below (QR ω (some (.int rr)) μo) args s 0 0 (wA ω)) (F0 m 0 ls []) := by
  have hx := C.1
  have hb := C.2.1
  unfold fX12_fadesOf at h
  refine lv_aload_n hx hb dX12_fadesOf_0 rfl (lv_at hl 0 rfl) ?_
  refine lv_iload_n hx hb dX12_fadesOf_1 rfl (lv_at hl 1 rfl) ?_
  refine lv_iconst (v := 2) hx hb dX12_fadesOf_2 (by decide) ?_
  refine lv_iconst (v := 1) hx hb dX12_fadesOf_3 (by decide) ?_
  refine lv_aload_n hx hb dX12_fadesOf_4 rfl (lv_at hl 0 rfl) ?_
  refine g_1235 (i := 32) C hH (jM_0 hW) rfl dX12_fadesOf_5 ?_
  refine lv_bipush (v := 12) hx hb dX12_fadesOf_8 (by decide) ?_
  refine lv_iload_n hx hb dX12_fadesOf_10 rfl (lv_at hl 1 rfl) ?_
  refine lv_iadd hx hb dX12_fadesOf_11 ?_
  obtain ⟨b1, h⟩ := gd_e h
  refine h_iald C hH (jM_32 hW).1 (jM_32 hW).2.1 b1 dX12_fadesOf_12 ?_
  obtain ⟨r4, μ3, e2, h⟩ := b2_e h
  refine cVi (as := [.int x1, .int 2, .int 1, .int (μ.1 32 ((12 + x1).toNatClampNeg))]) (rest := []) (c_X12_lawOf hW e2) C hl.1 hH hS rfl (jM_0 hW) rfl wd_57 wd_1522 mw_X12_lawOf wd_1520 rfl (rm_ok (by decide) (by decide)) (Nat.le_of_ble_eq_true rfl) ⟨Nat.zero_le _, Nat.zero_le _⟩ (by decide) dX12_fadesOf_13 (fun H locs hH hS => ?_)
  exact h_iret C hr hk hH hS rfl (by cases h; rfl) dX12_fadesOf_16
theorem c_X12_fadesOf {l : Launch} {ω : WW} {x1 : Int32} (hW : FWM ω) {μ : Mem} {rr : Int32} {μo : Mem} (h : fX12_fadesOf x1 μ = some (rr, μo)) : Con l yX12_fadesOf cX12_fadesOf 2 (some .int) 4 ω [.ref (wB ω + 0), .int x1] μ (some (.int rr)) μo :=
  con_of (by decide) (Nat.le_of_ble_eq_true rfl) (fun p e s m args below meth c ls C hr hk hl hH hS => wX12_fadesOf_e hW C hr hk hH hS (lv_sub hl [0, 1] rfl) h)
set_option maxHeartbeats 4000000 in
set_option maxRecDepth 100000 in
theorem wX12_coolsOf_e (hW : FWM ω) (C : Cx ω p s m args c cX12_coolsOf 2 RX12) (hr : meth.sig.returnType = some .int) (hk : meth.locks = false) {rr : Int32} {μo : Mem} {x1 : Int32} {μ : Mem} {H : Heap} {locs : List Loc} {ls : Array Slot} (hH : Hd ω μ H) (hS : FS ω s H locs) (hl : lv_has ls 2 [(0, .ref (wB ω + 0)), (1, .int x1)]) (h : fX12_coolsOf x1 μ = some (rr, μo)) : W p l e (rmd 4) s m args below meth c H locs 0 0 (MQ below (QR ω (some (.int rr)) μo) args s 0 0 (wA ω)) (F0 m 0 ls []) := by
  have hx := C.1
  have hb := C.2.1
  unfold fX12_coolsOf at h
  refine lv_aload_n hx hb dX12_coolsOf_0 rfl (lv_at hl 0 rfl) ?_
  refine lv_iload_n hx hb dX12_coolsOf_1 rfl (lv_at hl 1 rfl) ?_
  refine lv_iconst (v := 0) hx hb dX12_coolsOf_2 (by decide) ?_
  refine lv_aload_n hx hb dX12_coolsOf_3 rfl (lv_at hl 0 rfl) ?_
  refine g_1235 (i := 32) C hH (jM_0 hW) rfl dX12_coolsOf_4 ?_
  refine lv_iload_n hx hb dX12_coolsOf_7 rfl (lv_at hl 1 rfl) ?_
  obtain ⟨b1, h⟩ := gd_e h
  refine h_iald C hH (jM_32 hW).1 (jM_32 hW).2.1 b1 dX12_coolsOf_8 ?_
  refine lv_iconst (v := 1) hx hb dX12_coolsOf_9 (by decide) ?_
  refine lv_iadd hx hb dX12_coolsOf_10 ?_
  refine lv_bipush (v := 99) hx hb dX12_coolsOf_11 (by decide) ?_
  obtain ⟨r4, μ3, e2, h⟩ := b2_e h
  refine cVi (as := [.int x1, .int 0, .int ((μ.1 32 x1.toNatClampNeg) + 1), .int 99]) (rest := []) (c_X12_lawOf hW e2) C hl.1 hH hS rfl (jM_0 hW) rfl wd_57 wd_1522 mw_X12_lawOf wd_1520 rfl (rm_ok (by decide) (by decide)) (Nat.le_of_ble_eq_true rfl) ⟨Nat.zero_le _, Nat.zero_le _⟩ (by decide) dX12_coolsOf_13 (fun H locs hH hS => ?_)
  exact h_iret C hr hk hH hS rfl (by cases h; rfl) dX12_coolsOf_16
theorem c_X12_coolsOf {l : Launch} {ω : WW} {x1 : Int32} (hW : FWM ω) {μ : Mem} {rr : Int32} {μo : Mem} (h : fX12_coolsOf x1 μ = some (rr, μo)) : Con l yX12_coolsOf cX12_coolsOf 2 (some .int) 4 ω [.ref (wB ω + 0), .int x1] μ (some (.int rr)) μo :=
  con_of (by decide) (Nat.le_of_ble_eq_true rfl) (fun p e s m args below meth c ls C hr hk hl hH hS => wX12_coolsOf_e hW C hr hk hH hS (lv_sub hl [0, 1] rfl) h)
set_option maxHeartbeats 4000000 in
set_option maxRecDepth 100000 in
theorem wX12_chillOf_e (hW : FWM ω) (C : Cx ω p s m args c cX12_chillOf 2 RX12) (hr : meth.sig.returnType = some .int) (hk : meth.locks = false) {rr : Int32} {μo : Mem} {x1 : Int32} {μ : Mem} {H : Heap} {locs : List Loc} {ls : Array Slot} (hH : Hd ω μ H) (hS : FS ω s H locs) (hl : lv_has ls 2 [(0, .ref (wB ω + 0)), (1, .int x1)]) (h : fX12_chillOf x1 μ = some (rr, μo)) : W p l e (rmd 5) s m args below meth c H locs 0 0 (MQ below (QR ω (some (.int rr)) μo) args s 0 0 (wA ω)) (F0 m 0 ls []) := by
  have hx := C.1
  have hb := C.2.1
  unfold fX12_chillOf at h
  refine lv_aload_n hx hb dX12_chillOf_0 rfl (lv_at hl 0 rfl) ?_
  refine lv_iload_n hx hb dX12_chillOf_1 rfl (lv_at hl 1 rfl) ?_
  obtain ⟨r3, μ2, e1, h⟩ := b2_e h
  refine cVi (as := [.int x1]) (rest := []) (c_X12_coolsOf hW e1) C hl.1 hH hS rfl (jM_0 hW) rfl wd_56 wd_1518 mw_X12_coolsOf wd_1516 rfl (rm_ok (by decide) (by decide)) (Nat.le_of_ble_eq_true rfl) ⟨Nat.zero_le _, Nat.zero_le _⟩ (by decide) dX12_chillOf_2 (fun H locs hH hS => ?_)
  refine lv_aload_n hx hb dX12_chillOf_5 rfl (lv_at hl 0 rfl) ?_
  refine g_1235 (i := 32) C hH (jM_0 hW) rfl dX12_chillOf_6 ?_
  refine lv_bipush (v := 18) hx hb dX12_chillOf_9 (by decide) ?_
  refine lv_iload_n hx hb dX12_chillOf_11 rfl (lv_at hl 1 rfl) ?_
  refine lv_iadd hx hb dX12_chillOf_12 ?_
  obtain ⟨b4, h⟩ := gd_e h
  refine h_iald C hH (jM_32 hW).1 (jM_32 hW).2.1 b4 dX12_chillOf_13 ?_
  refine lv_iconst (v := 1) hx hb dX12_chillOf_14 (by decide) ?_
  refine lv_iadd hx hb dX12_chillOf_15 ?_
  refine lv_imul hx hb dX12_chillOf_16 ?_
  exact h_iret C hr hk hH hS rfl (by cases h; rfl) dX12_chillOf_17
theorem c_X12_chillOf {l : Launch} {ω : WW} {x1 : Int32} (hW : FWM ω) {μ : Mem} {rr : Int32} {μo : Mem} (h : fX12_chillOf x1 μ = some (rr, μo)) : Con l yX12_chillOf cX12_chillOf 2 (some .int) 5 ω [.ref (wB ω + 0), .int x1] μ (some (.int rr)) μo :=
  con_of (by decide) (Nat.le_of_ble_eq_true rfl) (fun p e s m args below meth c ls C hr hk hl hH hS => wX12_chillOf_e hW C hr hk hH hS (lv_sub hl [0, 1] rfl) h)
set_option maxHeartbeats 4000000 in
set_option maxRecDepth 100000 in
theorem wX12_mixed_e (C : Cx ω p s m args c cX12_mixed 3 RX12) (hr : meth.sig.returnType = some .int) (hk : meth.locks = false) {rr : Int32} {μ : Mem} {x0 : Int32} {x1 : Int32} {H : Heap} {locs : List Loc} {ls : Array Slot} (hH : Hd ω μ H) (hS : FS ω s H locs) (hl : lv_has ls 3 [(0, .int x0), (1, .int x1)]) (h : fX12_mixed x0 x1 = some rr) : W p l e (rmd 1) s m args below meth c H locs 0 0 (MQ below (QR ω (some (.int rr)) μ) args s 0 0 (wA ω)) (F0 m 0 ls []) := by
  have hx := C.1
  have hb := C.2.1
  unfold fX12_mixed at h
  refine lv_iload_n hx hb dX12_mixed_0 rfl (lv_at hl 0 rfl) ?_
  refine lv_iload_n hx hb dX12_mixed_1 rfl (lv_at hl 1 rfl) ?_
  refine lv_ixor hx hb dX12_mixed_2 ?_
  refine lv_ldcw (v := 1103515245) hx hb C.2.2.2.1 (C.2.2.2.2.1 _ (tg wd_1609 rfl)) dX12_mixed_3 ?_
  refine lv_imul hx hb dX12_mixed_6 ?_
  refine lv_sipush (v := 12345) hx hb dX12_mixed_7 (by decide) ?_
  refine lv_iadd hx hb dX12_mixed_10 ?_
  obtain ⟨y1, e2, h⟩ := bd_e h
  refine h_topi e2 ?_
  refine lv_istore_n (lv' := [(2, .int y1), (0, .int x0), (1, .int x1)]) hx hb dX12_mixed_11 rfl hl (by decide) rfl (fun ls hl => ?_)
  refine lv_iload_n hx hb dX12_mixed_12 rfl (lv_at hl 0 rfl) ?_
  refine lv_iload_n hx hb dX12_mixed_13 rfl (lv_at hl 0 rfl) ?_
  refine lv_bipush (v := 15) hx hb dX12_mixed_14 (by decide) ?_
  refine lv_iushr (v := ushr y1 15) hx hb dX12_mixed_16 rfl ?_
  refine lv_ixor hx hb dX12_mixed_17 ?_
  exact h_iret C hr hk hH hS rfl (by cases h; rfl) dX12_mixed_18
theorem c_X12_mixed {l : Launch} {ω : WW} {x0 : Int32} {x1 : Int32} {μ : Mem} {rr : Int32} (h : fX12_mixed x0 x1 = some rr) : Con l yX12_mixed cX12_mixed 3 (some .int) 1 ω [.int x0, .int x1] μ (some (.int rr)) μ :=
  con_of (by decide) (Nat.le_of_ble_eq_true rfl) (fun p e s m args below meth c ls C hr hk hl hH hS => wX12_mixed_e C hr hk hH hS (lv_sub hl [0, 1] rfl) h)
set_option maxHeartbeats 4000000 in
set_option maxRecDepth 100000 in
theorem wX12_lotOf_e (hW : FWM ω) (C : Cx ω p s m args c cX12_lotOf 3 RX12) (hr : meth.sig.returnType = some .int) (hk : meth.locks = false) {rr : Int32} {μ : Mem} {x1 : Int32} {x2 : Int32} {H : Heap} {locs : List Loc} {ls : Array Slot} (hH : Hd ω μ H) (hS : FS ω s H locs) (hl : lv_has ls 3 [(0, .ref (wB ω + 0)), (1, .int x1), (2, .int x2)]) (h : fX12_lotOf x1 x2 μ = some rr) : W p l e (rmd 2) s m args below meth c H locs 0 0 (MQ below (QR ω (some (.int rr)) μ) args s 0 0 (wA ω)) (F0 m 0 ls []) := by
  have hx := C.1
  have hb := C.2.1
  unfold fX12_lotOf at h
  refine lv_aload_n hx hb dX12_lotOf_0 rfl (lv_at hl 0 rfl) ?_
  refine g_1236 C hH (jM_0 hW) dX12_lotOf_1 ?_
  refine lv_sipush (v := 177) hx hb dX12_lotOf_4 (by decide) ?_
  obtain ⟨r2, e1, h⟩ := b1_e h
  refine cSi (as := [.int (μ.1 0 49), .int 177]) (rest := []) (c_X12_mixed e1) C hl.1 hH hS rfl wd_1607 mw_X12_mixed wd_1606 rfl (rm_ok (by decide) (by decide)) (Nat.le_of_ble_eq_true rfl) ⟨Nat.zero_le _, Nat.zero_le _⟩ dX12_lotOf_7 (fun H locs hH hS => ?_)
  refine lv_iload_n hx hb dX12_lotOf_10 rfl (lv_at hl 1 rfl) ?_
  obtain ⟨r4, e3, h⟩ := b1_e h
  refine cSi (as := [.int r2, .int x1]) (rest := []) (c_X12_mixed e3) C hl.1 hH hS rfl wd_1607 mw_X12_mixed wd_1606 rfl (rm_ok (by decide) (by decide)) (Nat.le_of_ble_eq_true rfl) ⟨Nat.zero_le _, Nat.zero_le _⟩ dX12_lotOf_11 (fun H locs hH hS => ?_)
  refine lv_iconst (v := 1) hx hb dX12_lotOf_14 (by decide) ?_
  refine lv_iushr (v := ushr r4 1) hx hb dX12_lotOf_15 rfl ?_
  refine lv_iload_n hx hb dX12_lotOf_16 rfl (lv_at hl 2 rfl) ?_
  obtain ⟨b5, h⟩ := gd_e h
  refine lv_irem hx hb dX12_lotOf_17 (dz_e b5) ?_
  exact h_iret C hr hk hH hS rfl (by cases h; rfl) dX12_lotOf_18
theorem c_X12_lotOf {l : Launch} {ω : WW} {x1 : Int32} {x2 : Int32} (hW : FWM ω) {μ : Mem} {rr : Int32} (h : fX12_lotOf x1 x2 μ = some rr) : Con l yX12_lotOf cX12_lotOf 3 (some .int) 2 ω [.ref (wB ω + 0), .int x1, .int x2] μ (some (.int rr)) μ :=
  con_of (by decide) (Nat.le_of_ble_eq_true rfl) (fun p e s m args below meth c ls C hr hk hl hH hS => wX12_lotOf_e hW C hr hk hH hS (lv_sub hl [0, 1, 2] rfl) h)
set_option maxHeartbeats 4000000 in
set_option maxRecDepth 100000 in
theorem wX12_isHail_e (hW : FWM ω) (C : Cx ω p s m args c cX12_isHail 1 RX12) (hr : meth.sig.returnType = some .boolean) (hk : meth.locks = false) {rr : Int32} {μ : Mem} {H : Heap} {locs : List Loc} {ls : Array Slot} (hH : Hd ω μ H) (hS : FS ω s H locs) (hl : lv_has ls 1 [(0, .ref (wB ω + 0))]) (h : fX12_isHail μ = some rr) : W p l e (rmd 3) s m args below meth c H locs 0 0 (MQ below (QR ω (some (.int rr)) μ) args s 0 0 (wA ω)) (F0 m 0 ls []) := by
  have hx := C.1
  have hb := C.2.1
  unfold fX12_isHail at h
  refine lv_aload_n hx hb dX12_isHail_0 rfl (lv_at hl 0 rfl) ?_
  refine lv_iconst (v := 4) hx hb dX12_isHail_1 (by decide) ?_
  refine lv_aload_n hx hb dX12_isHail_2 rfl (lv_at hl 0 rfl) ?_
  refine g_1235 (i := 32) C hH (jM_0 hW) rfl dX12_isHail_3 ?_
  refine lv_bipush (v := 36) hx hb dX12_isHail_6 (by decide) ?_
  refine h_iald C hH (jM_32 hW).1 (jM_32 hW).2.1 (by decide) dX12_isHail_8 ?_
  refine h_topi (y := μ.1 32 36) rfl ?_
  refine lv_imul hx hb dX12_isHail_9 ?_
  refine lv_bipush (v := 100) hx hb dX12_isHail_10 (by decide) ?_
  obtain ⟨r2, e1, h⟩ := b1_e h
  refine cVi (as := [.int (4 * (μ.1 32 36)), .int 100]) (rest := []) (c_X12_lotOf hW e1) C hl.1 hH hS rfl (jM_0 hW) rfl wd_70 wd_1604 mw_X12_lotOf wd_1602 rfl (rm_ok (by decide) (by decide)) (Nat.le_of_ble_eq_true rfl) ⟨Nat.zero_le _, Nat.zero_le _⟩ (by decide) dX12_isHail_12 (fun H locs hH hS => ?_)
  refine lv_aload_n hx hb dX12_isHail_15 rfl (lv_at hl 0 rfl) ?_
  refine g_1216 (i := 17) C hH (jM_0 hW) rfl dX12_isHail_16 ?_
  refine lv_aload_n hx hb dX12_isHail_19 rfl (lv_at hl 0 rfl) ?_
  refine g_1205 C hH (jM_0 hW) dX12_isHail_20 ?_
  obtain ⟨b3, h⟩ := gd_e h
  refine h_iald C hH (jM_17 hW).1 (jM_17 hW).2.1 b3 dX12_isHail_23 ?_
  refine lv_icmp_ge (tgt := 31) hx hb dX12_isHail_24 (by decide) (fun hc => ?_) (fun hc => ?_)
  · have h := ite_t hc h
    refine lv_iconst (v := 0) hx hb dX12_isHail_31 (by decide) ?_
    exact h_zret (y := 0) C hr hk hH hS rfl (by cases h; rfl) dX12_isHail_32
  · have h := ite_f hc h
    refine lv_iconst (v := 1) hx hb dX12_isHail_27 (by decide) ?_
    refine lv_goto (tgt := 32) hx hb dX12_isHail_28 (by decide) ?_
    exact h_zret (y := 1) C hr hk hH hS rfl (by cases h; rfl) dX12_isHail_32
theorem c_X12_isHail {l : Launch} {ω : WW} (hW : FWM ω) {μ : Mem} {rr : Int32} (h : fX12_isHail μ = some rr) : Con l yX12_isHail cX12_isHail 1 (some .boolean) 3 ω [.ref (wB ω + 0)] μ (some (.int rr)) μ :=
  con_of (by decide) (Nat.le_of_ble_eq_true rfl) (fun p e s m args below meth c ls C hr hk hl hH hS => wX12_isHail_e hW C hr hk hH hS (lv_sub hl [0] rfl) h)
set_option maxHeartbeats 4000000 in
set_option maxRecDepth 100000 in
theorem wX12_dayGoes_s2 (hW : FWM ω) (C : Cx ω p s m args c cX12_dayGoes 2 RX12) (hr : meth.sig.returnType = none) (hk : meth.locks = false) {μo : Mem} {x1 : Int32} {rec : Int32 → Mem → Option Mem} (hrec : ∀ (z1 : Int32) (ν : Mem) (H : Heap) (locs : List Loc) (ls : Array Slot), Hd ω ν H → FS ω s H locs → lv_has ls 2 [(0, .ref (wB ω + 0)), (1, .int z1)] → rec z1 ν = some μo → W p l e (rmd 6) s m args below meth c H locs 0 0 (MQ below (QR ω none μo) args s 0 0 (wA ω)) (F0 m 2 ls [])) {K : Mem → Option Mem} (hK : ∀ (ν : Mem) (H : Heap) (locs : List Loc) (ls : Array Slot), Hd ω ν H → FS ω s H locs → lv_has ls 2 [(0, .ref (wB ω + 0))] → K ν = some μo → W p l e (rmd 6) s m args below meth c H locs 0 0 (MQ below (QR ω none μo) args s 0 0 (wA ω)) (F0 m 38 ls [])) {μ : Mem} {H : Heap} {locs : List Loc} {ls : Array Slot} (hH : Hd ω μ H) (hS : FS ω s H locs) (hl : lv_has ls 2 [(0, .ref (wB ω + 0)), (1, .int x1)]) (h : fX12_dayGoes_s2 rec K x1 μ = some μo) : W p l e (rmd 6) s m args below meth c H locs 0 0 (MQ below (QR ω none μo) args s 0 0 (wA ω)) (F0 m 2 ls []) := by
  have hx := C.1
  have hb := C.2.1
  unfold fX12_dayGoes_s2 at h
  refine lv_iload_n hx hb dX12_dayGoes_2 rfl (lv_at hl 1 rfl) ?_
  refine lv_aload_n hx hb dX12_dayGoes_3 rfl (lv_at hl 0 rfl) ?_
  obtain ⟨r2, e1, h⟩ := b1_e h
  refine cVi (as := []) (rest := [.int x1]) (c_X12_many hW e1) C hl.1 hH hS rfl (jM_0 hW) rfl wd_31 wd_1182 mw_X12_many wd_1180 rfl (rm_ok (by decide) (by decide)) (Nat.le_of_ble_eq_true rfl) ⟨Nat.zero_le _, Nat.zero_le _⟩ (by decide) dX12_dayGoes_4 (fun H locs hH hS => ?_)
  refine lv_icmp_ge (tgt := 38) hx hb dX12_dayGoes_7 (by decide) (fun hc => ?_) (fun hc => ?_)
  · have h := ite_t hc h
    exact hK _ H locs ls hH hS (lv_sub hl [0] rfl) h
  · have h := ite_f hc h
    refine lv_aload_n hx hb dX12_dayGoes_10 rfl (lv_at hl 0 rfl) ?_
    refine g_1238 (i := 33) C hH (jM_0 hW) rfl dX12_dayGoes_11 ?_
    refine lv_iload_n hx hb dX12_dayGoes_14 rfl (lv_at hl 1 rfl) ?_
    refine lv_aload_n hx hb dX12_dayGoes_15 rfl (lv_at hl 0 rfl) ?_
    refine lv_iload_n hx hb dX12_dayGoes_16 rfl (lv_at hl 1 rfl) ?_
    obtain ⟨r5, μ4, e3, h⟩ := b2_e h
    refine cVi (as := [.int x1]) (rest := [.int x1, .ref (wB ω + 33)]) (c_X12_fadesOf hW e3) C hl.1 hH hS rfl (jM_0 hW) rfl wd_61 wd_1541 mw_X12_fadesOf wd_1539 rfl (rm_ok (by decide) (by decide)) (Nat.le_of_ble_eq_true rfl) ⟨Nat.zero_le _, Nat.zero_le _⟩ (by decide) dX12_dayGoes_17 (fun H locs hH hS => ?_)
    obtain ⟨b6, h⟩ := gd_e h
    obtain ⟨μ7, e8, h⟩ := bd_e h
    refine h_iast C hH hS (jM_33 hW).1 (jM_33 hW).2.1 b6 dX12_dayGoes_20 (fun H locs hH hS => ?_)
    have hH := Hd.to e8 hH
    refine lv_aload_n hx hb dX12_dayGoes_21 rfl (lv_at hl 0 rfl) ?_
    refine g_1239 (i := 34) C hH (jM_0 hW) rfl dX12_dayGoes_22 ?_
    refine lv_iload_n hx hb dX12_dayGoes_25 rfl (lv_at hl 1 rfl) ?_
    refine lv_aload_n hx hb dX12_dayGoes_26 rfl (lv_at hl 0 rfl) ?_
    refine lv_iload_n hx hb dX12_dayGoes_27 rfl (lv_at hl 1 rfl) ?_
    obtain ⟨r11, μ10, e9, h⟩ := b2_e h
    refine cVi (as := [.int x1]) (rest := [.int x1, .ref (wB ω + 34)]) (c_X12_chillOf hW e9) C hl.1 hH hS rfl (jM_0 hW) rfl wd_68 wd_1596 mw_X12_chillOf wd_1594 rfl (rm_ok (by decide) (by decide)) (Nat.le_of_ble_eq_true rfl) ⟨Nat.zero_le _, Nat.zero_le _⟩ (by decide) dX12_dayGoes_28 (fun H locs hH hS => ?_)
    obtain ⟨b12, h⟩ := gd_e h
    obtain ⟨μ13, e14, h⟩ := bd_e h
    refine h_iast C hH hS (jM_34 hW).1 (jM_34 hW).2.1 b12 dX12_dayGoes_31 (fun H locs hH hS => ?_)
    have hH := Hd.to e14 hH
    refine lv_iinc (v := x1 + 1) (lv' := [(1, .int (x1 + 1)), (0, .ref (wB ω + 0))]) hx hb dX12_dayGoes_32 hl (k := 1) rfl rfl (by decide) rfl (fun ls hl => ?_)
    refine lv_goto (tgt := 2) hx hb dX12_dayGoes_35 (by decide) ?_
    exact hrec _ _ H locs ls hH hS (lv_sub hl [1, 0] rfl) h
theorem wX12_dayGoes_l2 (hW : FWM ω) (C : Cx ω p s m args c cX12_dayGoes 2 RX12) (hr : meth.sig.returnType = none) (hk : meth.locks = false) {μo : Mem} {K : Mem → Option Mem} (hK : ∀ (ν : Mem) (H : Heap) (locs : List Loc) (ls : Array Slot), Hd ω ν H → FS ω s H locs → lv_has ls 2 [(0, .ref (wB ω + 0))] → K ν = some μo → W p l e (rmd 6) s m args below meth c H locs 0 0 (MQ below (QR ω none μo) args s 0 0 (wA ω)) (F0 m 38 ls [])) : ∀ (n : Nat) (x1 : Int32) (μ : Mem) (H : Heap) (locs : List Loc) (ls : Array Slot), Hd ω μ H → FS ω s H locs → lv_has ls 2 [(0, .ref (wB ω + 0)), (1, .int x1)] → fX12_dayGoes_l2 K n x1 μ = some μo → W p l e (rmd 6) s m args below meth c H locs 0 0 (MQ below (QR ω none μo) args s 0 0 (wA ω)) (F0 m 2 ls []) := by
  intro n
  induction n with
  | zero => intro x1 μ H locs ls hH hS hl h; cases h
  | succ n ih => intro x1 μ H locs ls hH hS hl h; exact wX12_dayGoes_s2 hW C hr hk ih hK hH hS hl h
set_option maxHeartbeats 4000000 in
set_option maxRecDepth 100000 in
theorem wX12_dayGoes_s40 (hW : FWM ω) (C : Cx ω p s m args c cX12_dayGoes 2 RX12) (hr : meth.sig.returnType = none) (hk : meth.locks = false) {μo : Mem} {x1 : Int32} {rec : Int32 → Mem → Option Mem} (hrec : ∀ (z1 : Int32) (ν : Mem) (H : Heap) (locs : List Loc) (ls : Array Slot), Hd ω ν H → FS ω s H locs → lv_has ls 2 [(0, .ref (wB ω + 0)), (1, .int z1)] → rec z1 ν = some μo → W p l e (rmd 6) s m args below meth c H locs 0 0 (MQ below (QR ω none μo) args s 0 0 (wA ω)) (F0 m 40 ls [])) {K : Mem → Option Mem} (hK : ∀ (ν : Mem) (H : Heap) (locs : List Loc) (ls : Array Slot), Hd ω ν H → FS ω s H locs → lv_has ls 2 [(0, .ref (wB ω + 0))] → K ν = some μo → W p l e (rmd 6) s m args below meth c H locs 0 0 (MQ below (QR ω none μo) args s 0 0 (wA ω)) (F0 m 114 ls [])) {μ : Mem} {H : Heap} {locs : List Loc} {ls : Array Slot} (hH : Hd ω μ H) (hS : FS ω s H locs) (hl : lv_has ls 2 [(0, .ref (wB ω + 0)), (1, .int x1)]) (h : fX12_dayGoes_s40 rec K x1 μ = some μo) : W p l e (rmd 6) s m args below meth c H locs 0 0 (MQ below (QR ω none μo) args s 0 0 (wA ω)) (F0 m 40 ls []) := by
  have hx := C.1
  have hb := C.2.1
  unfold fX12_dayGoes_s40 at h
  refine lv_iload_n hx hb dX12_dayGoes_40 rfl (lv_at hl 1 rfl) ?_
  refine lv_aload_n hx hb dX12_dayGoes_41 rfl (lv_at hl 0 rfl) ?_
  obtain ⟨r17, e16, h⟩ := b1_e h
  refine cVi (as := []) (rest := [.int x1]) (c_X12_many hW e16) C hl.1 hH hS rfl (jM_0 hW) rfl wd_31 wd_1182 mw_X12_many wd_1180 rfl (rm_ok (by decide) (by decide)) (Nat.le_of_ble_eq_true rfl) ⟨Nat.zero_le _, Nat.zero_le _⟩ (by decide) dX12_dayGoes_42 (fun H locs hH hS => ?_)
  refine lv_icmp_ge (tgt := 114) hx hb dX12_dayGoes_45 (by decide) (fun hc => ?_) (fun hc => ?_)
  · have h := ite_t hc h
    exact hK _ H locs ls hH hS (lv_sub hl [0] rfl) h
  · have h := ite_f hc h
    refine lv_aload_n hx hb dX12_dayGoes_48 rfl (lv_at hl 0 rfl) ?_
    refine g_1235 (i := 32) C hH (jM_0 hW) rfl dX12_dayGoes_49 ?_
    refine lv_bipush (v := 12) hx hb dX12_dayGoes_52 (by decide) ?_
    refine lv_iload_n hx hb dX12_dayGoes_54 rfl (lv_at hl 1 rfl) ?_
    refine lv_iadd hx hb dX12_dayGoes_55 ?_
    refine lv_dup2_11 hx hb dX12_dayGoes_56 rfl rfl ?_
    obtain ⟨b18, h⟩ := gd_e h
    refine h_iald C hH (jM_32 hW).1 (jM_32 hW).2.1 b18 dX12_dayGoes_57 ?_
    refine lv_aload_n hx hb dX12_dayGoes_58 rfl (lv_at hl 0 rfl) ?_
    refine g_1238 (i := 33) C hH (jM_0 hW) rfl dX12_dayGoes_59 ?_
    refine lv_iload_n hx hb dX12_dayGoes_62 rfl (lv_at hl 1 rfl) ?_
    obtain ⟨b19, h⟩ := gd_e h
    refine h_iald C hH (jM_33 hW).1 (jM_33 hW).2.1 b19 dX12_dayGoes_63 ?_
    refine lv_isub hx hb dX12_dayGoes_64 ?_
    obtain ⟨b20, h⟩ := gd_e h
    obtain ⟨μ21, e22, h⟩ := bd_e h
    refine h_iast C hH hS (jM_32 hW).1 (jM_32 hW).2.1 b20 dX12_dayGoes_65 (fun H locs hH hS => ?_)
    have hH := Hd.to e22 hH
    refine lv_aload_n hx hb dX12_dayGoes_66 rfl (lv_at hl 0 rfl) ?_
    refine g_1235 (i := 32) C hH (jM_0 hW) rfl dX12_dayGoes_67 ?_
    refine lv_bipush (v := 6) hx hb dX12_dayGoes_70 (by decide) ?_
    refine lv_iload_n hx hb dX12_dayGoes_72 rfl (lv_at hl 1 rfl) ?_
    refine lv_iadd hx hb dX12_dayGoes_73 ?_
    refine lv_aload_n hx hb dX12_dayGoes_74 rfl (lv_at hl 0 rfl) ?_
    refine g_1235 (i := 32) C hH (jM_0 hW) rfl dX12_dayGoes_75 ?_
    refine lv_bipush (v := 6) hx hb dX12_dayGoes_78 (by decide) ?_
    refine lv_iload_n hx hb dX12_dayGoes_80 rfl (lv_at hl 1 rfl) ?_
    refine lv_iadd hx hb dX12_dayGoes_81 ?_
    obtain ⟨b23, h⟩ := gd_e h
    refine h_iald C hH (jM_32 hW).1 (jM_32 hW).2.1 b23 dX12_dayGoes_82 ?_
    refine lv_aload_n hx hb dX12_dayGoes_83 rfl (lv_at hl 0 rfl) ?_
    refine g_1239 (i := 34) C hH (jM_0 hW) rfl dX12_dayGoes_84 ?_
    refine lv_iload_n hx hb dX12_dayGoes_87 rfl (lv_at hl 1 rfl) ?_
    obtain ⟨b24, h⟩ := gd_e h
    refine h_iald C hH (jM_34 hW).1 (jM_34 hW).2.1 b24 dX12_dayGoes_88 ?_
    refine lv_isub hx hb dX12_dayGoes_89 ?_
    refine lv_iconst (v := 0) hx hb dX12_dayGoes_90 (by decide) ?_
    refine lv_sipush (v := 999) hx hb dX12_dayGoes_91 (by decide) ?_
    obtain ⟨r26, e25, h⟩ := b1_e h
    refine cSi (as := [.int ((μ21.1 32 ((6 + x1).toNatClampNeg)) - (μ21.1 34 x1.toNatClampNeg)), .int 0, .int 999]) (rest := [.int (6 + x1), .ref (wB ω + 32)]) (c_X12_within e25) C hl.1 hH hS rfl wd_1533 mw_X12_within wd_1532 rfl (rm_ok (by decide) (by decide)) (Nat.le_of_ble_eq_true rfl) ⟨Nat.zero_le _, Nat.zero_le _⟩ dX12_dayGoes_94 (fun H locs hH hS => ?_)
    obtain ⟨b27, h⟩ := gd_e h
    obtain ⟨μ28, e29, h⟩ := bd_e h
    refine h_iast C hH hS (jM_32 hW).1 (jM_32 hW).2.1 b27 dX12_dayGoes_97 (fun H locs hH hS => ?_)
    have hH := Hd.to e29 hH
    refine lv_aload_n hx hb dX12_dayGoes_98 rfl (lv_at hl 0 rfl) ?_
    refine g_1235 (i := 32) C hH (jM_0 hW) rfl dX12_dayGoes_99 ?_
    refine lv_bipush (v := 30) hx hb dX12_dayGoes_102 (by decide) ?_
    refine lv_iload_n hx hb dX12_dayGoes_104 rfl (lv_at hl 1 rfl) ?_
    refine lv_iadd hx hb dX12_dayGoes_105 ?_
    refine lv_iconst (v := 0) hx hb dX12_dayGoes_106 (by decide) ?_
    obtain ⟨b30, h⟩ := gd_e h
    obtain ⟨μ31, e32, h⟩ := bd_e h
    refine h_iast C hH hS (jM_32 hW).1 (jM_32 hW).2.1 b30 dX12_dayGoes_107 (fun H locs hH hS => ?_)
    have hH := Hd.to e32 hH
    refine lv_iinc (v := x1 + 1) (lv' := [(1, .int (x1 + 1)), (0, .ref (wB ω + 0))]) hx hb dX12_dayGoes_108 hl (k := 1) rfl rfl (by decide) rfl (fun ls hl => ?_)
    refine lv_goto (tgt := 40) hx hb dX12_dayGoes_111 (by decide) ?_
    exact hrec _ _ H locs ls hH hS (lv_sub hl [1, 0] rfl) h
theorem wX12_dayGoes_l40 (hW : FWM ω) (C : Cx ω p s m args c cX12_dayGoes 2 RX12) (hr : meth.sig.returnType = none) (hk : meth.locks = false) {μo : Mem} {K : Mem → Option Mem} (hK : ∀ (ν : Mem) (H : Heap) (locs : List Loc) (ls : Array Slot), Hd ω ν H → FS ω s H locs → lv_has ls 2 [(0, .ref (wB ω + 0))] → K ν = some μo → W p l e (rmd 6) s m args below meth c H locs 0 0 (MQ below (QR ω none μo) args s 0 0 (wA ω)) (F0 m 114 ls [])) : ∀ (n : Nat) (x1 : Int32) (μ : Mem) (H : Heap) (locs : List Loc) (ls : Array Slot), Hd ω μ H → FS ω s H locs → lv_has ls 2 [(0, .ref (wB ω + 0)), (1, .int x1)] → fX12_dayGoes_l40 K n x1 μ = some μo → W p l e (rmd 6) s m args below meth c H locs 0 0 (MQ below (QR ω none μo) args s 0 0 (wA ω)) (F0 m 40 ls []) := by
  intro n
  induction n with
  | zero => intro x1 μ H locs ls hH hS hl h; cases h
  | succ n ih => intro x1 μ H locs ls hH hS hl h; exact wX12_dayGoes_s40 hW C hr hk ih hK hH hS hl h
set_option maxHeartbeats 4000000 in
set_option maxRecDepth 100000 in
theorem wX12_dayGoes_b179 (hW : FWM ω) (C : Cx ω p s m args c cX12_dayGoes 2 RX12) (hr : meth.sig.returnType = none) (hk : meth.locks = false) {μo : Mem} {μ : Mem} {H : Heap} {locs : List Loc} {ls : Array Slot} (hH : Hd ω μ H) (hS : FS ω s H locs) (hl : lv_has ls 2 [(0, .ref (wB ω + 0))]) (h : fX12_dayGoes_b179 μ = some μo) : W p l e (rmd 6) s m args below meth c H locs 0 0 (MQ below (QR ω none μo) args s 0 0 (wA ω)) (F0 m 179 ls []) := by
  have hx := C.1
  have hb := C.2.1
  unfold fX12_dayGoes_b179 at h
  refine lv_aload_n hx hb dX12_dayGoes_179 rfl (lv_at hl 0 rfl) ?_
  refine g_1235 (i := 32) C hH (jM_0 hW) rfl dX12_dayGoes_180 ?_
  refine lv_bipush (v := 36) hx hb dX12_dayGoes_183 (by decide) ?_
  refine lv_dup2_11 hx hb dX12_dayGoes_185 rfl rfl ?_
  refine h_iald C hH (jM_32 hW).1 (jM_32 hW).2.1 (by decide) dX12_dayGoes_186 ?_
  refine h_topi (y := μ.1 32 36) rfl ?_
  refine lv_iconst (v := 1) hx hb dX12_dayGoes_187 (by decide) ?_
  refine lv_iadd hx hb dX12_dayGoes_188 ?_
  obtain ⟨μ34, e35, h⟩ := bd_e h
  refine h_iast C hH hS (jM_32 hW).1 (jM_32 hW).2.1 (by decide) dX12_dayGoes_189 (fun H locs hH hS => ?_)
  have hH := Hd.to e35 hH
  exact h_vret C hr hk hH hS (by cases h; rfl) dX12_dayGoes_190
set_option maxHeartbeats 4000000 in
set_option maxRecDepth 100000 in
theorem wX12_dayGoes_e (hW : FWM ω) (C : Cx ω p s m args c cX12_dayGoes 2 RX12) (hr : meth.sig.returnType = none) (hk : meth.locks = false) {μo : Mem} {μ : Mem} {H : Heap} {locs : List Loc} {ls : Array Slot} (hH : Hd ω μ H) (hS : FS ω s H locs) (hl : lv_has ls 2 [(0, .ref (wB ω + 0))]) (h : fX12_dayGoes μ = some μo) : W p l e (rmd 6) s m args below meth c H locs 0 0 (MQ below (QR ω none μo) args s 0 0 (wA ω)) (F0 m 0 ls []) := by
  have hx := C.1
  have hb := C.2.1
  unfold fX12_dayGoes at h
  refine lv_iconst (v := 0) hx hb dX12_dayGoes_0 (by decide) ?_
  refine lv_istore_n (lv' := [(1, .int 0), (0, .ref (wB ω + 0))]) hx hb dX12_dayGoes_1 rfl hl (by decide) rfl (fun ls hl => ?_)
  refine wX12_dayGoes_l2 hW C hr hk (fun μ15 H locs ls hH hS hl h => ?_) FU _ _ H locs ls hH hS (lv_sub hl [1, 0] rfl) h
  refine lv_iconst (v := 0) hx hb dX12_dayGoes_38 (by decide) ?_
  refine lv_istore_n (lv' := [(1, .int 0), (0, .ref (wB ω + 0))]) hx hb dX12_dayGoes_39 rfl hl (by decide) rfl (fun ls hl => ?_)
  refine wX12_dayGoes_l40 hW C hr hk (fun μ33 H locs ls hH hS hl h => ?_) FU _ _ H locs ls hH hS (lv_sub hl [1, 0] rfl) h
  refine lv_aload_n hx hb dX12_dayGoes_114 rfl (lv_at hl 0 rfl) ?_
  refine g_1237 C hH (jM_0 hW) dX12_dayGoes_115 ?_
  refine lv_if_ne (tgt := 179) hx hb dX12_dayGoes_118 (by decide) (fun hc => ?_) (fun hc => ?_)
  · have h := ite_f hc h
    exact wX12_dayGoes_b179 hW C hr hk hH hS hl h
  · have h := ite_t hc h
    refine lv_aload_n hx hb dX12_dayGoes_121 rfl (lv_at hl 0 rfl) ?_
    obtain ⟨r37, e36, h⟩ := b1_e h
    refine cVi (as := []) (rest := []) (c_X12_many hW e36) C hl.1 hH hS rfl (jM_0 hW) rfl wd_31 wd_1182 mw_X12_many wd_1180 rfl (rm_ok (by decide) (by decide)) (Nat.le_of_ble_eq_true rfl) ⟨Nat.zero_le _, Nat.zero_le _⟩ (by decide) dX12_dayGoes_122 (fun H locs hH hS => ?_)
    refine lv_if_le (tgt := 179) hx hb dX12_dayGoes_125 (by decide) (fun hc => ?_) (fun hc => ?_)
    · have h := ite_t hc h
      exact wX12_dayGoes_b179 hW C hr hk hH hS hl h
    · have h := ite_f hc h
      refine lv_aload_n hx hb dX12_dayGoes_128 rfl (lv_at hl 0 rfl) ?_
      obtain ⟨r39, e38, h⟩ := b1_e h
      refine cVi (as := []) (rest := []) (c_X12_isHail hW e38) C hl.1 hH hS rfl (jM_0 hW) rfl wd_69 wd_1600 mw_X12_isHail wd_1598 rfl (rm_ok (by decide) (by decide)) (Nat.le_of_ble_eq_true rfl) ⟨Nat.zero_le _, Nat.zero_le _⟩ (by decide) dX12_dayGoes_129 (fun H locs hH hS => ?_)
      refine lv_if_eq (tgt := 179) hx hb dX12_dayGoes_132 (by decide) (fun hc => ?_) (fun hc => ?_)
      · have h := ite_t hc h
        exact wX12_dayGoes_b179 hW C hr hk hH hS hl h
      · have h := ite_f hc h
        refine lv_aload_n hx hb dX12_dayGoes_135 rfl (lv_at hl 0 rfl) ?_
        refine lv_iconst (v := 4) hx hb dX12_dayGoes_136 (by decide) ?_
        refine lv_aload_n hx hb dX12_dayGoes_137 rfl (lv_at hl 0 rfl) ?_
        refine g_1235 (i := 32) C hH (jM_0 hW) rfl dX12_dayGoes_138 ?_
        refine lv_bipush (v := 36) hx hb dX12_dayGoes_141 (by decide) ?_
        refine h_iald C hH (jM_32 hW).1 (jM_32 hW).2.1 (by decide) dX12_dayGoes_143 ?_
        refine h_topi (y := μ33.1 32 36) rfl ?_
        refine lv_imul hx hb dX12_dayGoes_144 ?_
        refine lv_iconst (v := 1) hx hb dX12_dayGoes_145 (by decide) ?_
        refine lv_iadd hx hb dX12_dayGoes_146 ?_
        refine lv_aload_n hx hb dX12_dayGoes_147 rfl (lv_at hl 0 rfl) ?_
        obtain ⟨r41, e40, h⟩ := b1_e h
        refine cVi (as := []) (rest := [.int ((4 * (μ33.1 32 36)) + 1), .ref (wB ω + 0)]) (c_X12_many hW e40) C hl.1 hH hS rfl (jM_0 hW) rfl wd_31 wd_1182 mw_X12_many wd_1180 rfl (rm_ok (by decide) (by decide)) (Nat.le_of_ble_eq_true rfl) ⟨Nat.zero_le _, Nat.zero_le _⟩ (by decide) dX12_dayGoes_148 (fun H locs hH hS => ?_)
        obtain ⟨r43, e42, h⟩ := b1_e h
        refine cVi (as := [.int ((4 * (μ33.1 32 36)) + 1), .int r41]) (rest := []) (c_X12_lotOf hW e42) C hl.1 hH hS rfl (jM_0 hW) rfl wd_70 wd_1604 mw_X12_lotOf wd_1602 rfl (rm_ok (by decide) (by decide)) (Nat.le_of_ble_eq_true rfl) ⟨Nat.zero_le _, Nat.zero_le _⟩ (by decide) dX12_dayGoes_151 (fun H locs hH hS => ?_)
        refine lv_istore_n (lv' := [(1, .int r43), (0, .ref (wB ω + 0))]) hx hb dX12_dayGoes_154 rfl hl (by decide) rfl (fun ls hl => ?_)
        refine lv_aload_n hx hb dX12_dayGoes_155 rfl (lv_at hl 1 rfl) ?_
        refine g_1235 (i := 32) C hH (jM_0 hW) rfl dX12_dayGoes_156 ?_
        refine lv_iload_n hx hb dX12_dayGoes_159 rfl (lv_at hl 0 rfl) ?_
        obtain ⟨b44, h⟩ := gd_e h
        refine h_iald C hH (jM_32 hW).1 (jM_32 hW).2.1 b44 dX12_dayGoes_160 ?_
        refine lv_aload_n hx hb dX12_dayGoes_161 rfl (lv_at hl 1 rfl) ?_
        refine lv_iload_n hx hb dX12_dayGoes_162 rfl (lv_at hl 0 rfl) ?_
        obtain ⟨r46, e45, h⟩ := b1_e h
        refine cVi (as := [.int r43]) (rest := [.int (μ33.1 32 r43.toNatClampNeg)]) (c_X12_panesAt hW e45) C hl.1 hH hS rfl (jM_0 hW) rfl wd_55 wd_1514 mw_X12_panesAt wd_1512 rfl (rm_ok (by decide) (by decide)) (Nat.le_of_ble_eq_true rfl) ⟨Nat.zero_le _, Nat.zero_le _⟩ (by decide) dX12_dayGoes_163 (fun H locs hH hS => ?_)
        refine lv_icmp_ge (tgt := 179) hx hb dX12_dayGoes_166 (by decide) (fun hc => ?_) (fun hc => ?_)
        · have h := ite_t hc h
          exact wX12_dayGoes_b179 hW C hr hk hH hS (lv_sub hl [1] rfl) h
        · have h := ite_f hc h
          refine lv_aload_n hx hb dX12_dayGoes_169 rfl (lv_at hl 1 rfl) ?_
          refine g_1235 (i := 32) C hH (jM_0 hW) rfl dX12_dayGoes_170 ?_
          refine lv_iload_n hx hb dX12_dayGoes_173 rfl (lv_at hl 0 rfl) ?_
          refine lv_dup2_11 hx hb dX12_dayGoes_174 rfl rfl ?_
          obtain ⟨b47, h⟩ := gd_e h
          refine h_iald C hH (jM_32 hW).1 (jM_32 hW).2.1 b47 dX12_dayGoes_175 ?_
          refine lv_iconst (v := 1) hx hb dX12_dayGoes_176 (by decide) ?_
          refine lv_iadd hx hb dX12_dayGoes_177 ?_
          obtain ⟨b48, h⟩ := gd_e h
          obtain ⟨μ49, e50, h⟩ := bd_e h
          refine h_iast C hH hS (jM_32 hW).1 (jM_32 hW).2.1 b48 dX12_dayGoes_178 (fun H locs hH hS => ?_)
          have hH := Hd.to e50 hH
          exact wX12_dayGoes_b179 hW C hr hk hH hS (lv_sub hl [1] rfl) h
theorem c_X12_dayGoes {l : Launch} {ω : WW} (hW : FWM ω) {μ : Mem} {μo : Mem} (h : fX12_dayGoes μ = some μo) : Con l yX12_dayGoes cX12_dayGoes 2 none 6 ω [.ref (wB ω + 0)] μ none μo :=
  con_of (by decide) (Nat.le_of_ble_eq_true rfl) (fun p e s m args below meth c ls C hr hk hl hH hS => wX12_dayGoes_e hW C hr hk hH hS (lv_sub hl [0] rfl) h)
end WK7
