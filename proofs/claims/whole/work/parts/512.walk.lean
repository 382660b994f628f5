theorem dX12_next_0 : decode cX12_next 0 = .ok (.aload_n 0, 1) := by decide +kernel
theorem dX12_next_1 : decode cX12_next 1 = .ok (.iload_n 1, 1) := by decide +kernel
theorem dX12_next_2 : decode cX12_next 2 = .ok (.invokevirtual 371, 3) := by decide +kernel
theorem dX12_next_5 : decode cX12_next 5 = .ok (.ifCond .eq 17, 3) := by decide +kernel
theorem dX12_next_8 : decode cX12_next 8 = .ok (.iload_n 2, 1) := by decide +kernel
theorem dX12_next_9 : decode cX12_next 9 = .ok (.iconst 0, 1) := by decide +kernel
theorem dX12_next_10 : decode cX12_next 10 = .ok (.aload_n 0, 1) := by decide +kernel
theorem dX12_next_11 : decode cX12_next 11 = .ok (.invokevirtual 309, 3) := by decide +kernel
theorem dX12_next_14 : decode cX12_next 14 = .ok (.iconst 1, 1) := by decide +kernel
theorem dX12_next_15 : decode cX12_next 15 = .ok (.isub, 1) := by decide +kernel
theorem dX12_next_16 : decode cX12_next 16 = .ok (.invokestatic 313, 3) := by decide +kernel
theorem dX12_next_19 : decode cX12_next 19 = .ok (.ifCond .ne 5, 3) := by decide +kernel
theorem dX12_next_22 : decode cX12_next 22 = .ok (.iconst (-1), 1) := by decide +kernel
theorem dX12_next_23 : decode cX12_next 23 = .ok (.ireturn, 1) := by decide +kernel
theorem dX12_next_24 : decode cX12_next 24 = .ok (.aload_n 0, 1) := by decide +kernel
theorem dX12_next_25 : decode cX12_next 25 = .ok (.invokevirtual 441, 3) := by decide +kernel
theorem dX12_next_28 : decode cX12_next 28 = .ok (.iconst 1, 1) := by decide +kernel
theorem dX12_next_29 : decode cX12_next 29 = .ok (.iload_n 1, 1) := by decide +kernel
theorem dX12_next_30 : decode cX12_next 30 = .ok (.ishl, 1) := by decide +kernel
theorem dX12_next_31 : decode cX12_next 31 = .ok (.istore_n 3, 1) := by decide +kernel
theorem dX12_next_32 : decode cX12_next 32 = .ok (.iload_n 1, 1) := by decide +kernel
theorem dX12_next_33 : decode cX12_next 33 = .ok (.istore 4, 2) := by decide +kernel
theorem dX12_next_35 : decode cX12_next 35 = .ok (.iconst 0, 1) := by decide +kernel
theorem dX12_next_36 : decode cX12_next 36 = .ok (.istore 5, 2) := by decide +kernel
theorem dX12_next_38 : decode cX12_next 38 = .ok (.iload 5, 2) := by decide +kernel
theorem dX12_next_40 : decode cX12_next 40 = .ok (.iload_n 2, 1) := by decide +kernel
theorem dX12_next_41 : decode cX12_next 41 = .ok (.if_icmp .ge 63, 3) := by decide +kernel
theorem dX12_next_44 : decode cX12_next 44 = .ok (.iconst 0, 1) := by decide +kernel
theorem dX12_next_45 : decode cX12_next 45 = .ok (.istore 6, 2) := by decide +kernel
theorem dX12_next_47 : decode cX12_next 47 = .ok (.iload_n 3, 1) := by decide +kernel
theorem dX12_next_48 : decode cX12_next 48 = .ok (.iload 6, 2) := by decide +kernel
theorem dX12_next_50 : decode cX12_next 50 = .ok (.ishr, 1) := by decide +kernel
theorem dX12_next_51 : decode cX12_next 51 = .ok (.iconst 1, 1) := by decide +kernel
theorem dX12_next_52 : decode cX12_next 52 = .ok (.iand, 1) := by decide +kernel
theorem dX12_next_53 : decode cX12_next 53 = .ok (.iconst 1, 1) := by decide +kernel
theorem dX12_next_54 : decode cX12_next 54 = .ok (.if_icmp .eq 27, 3) := by decide +kernel
theorem dX12_next_57 : decode cX12_next 57 = .ok (.aload_n 0, 1) := by decide +kernel
theorem dX12_next_58 : decode cX12_next 58 = .ok (.iload_n 3, 1) := by decide +kernel
theorem dX12_next_59 : decode cX12_next 59 = .ok (.iload 4, 2) := by decide +kernel
theorem dX12_next_61 : decode cX12_next 61 = .ok (.iload 6, 2) := by decide +kernel
theorem dX12_next_63 : decode cX12_next 63 = .ok (.invokevirtual 438, 3) := by decide +kernel
theorem dX12_next_66 : decode cX12_next 66 = .ok (.aload_n 0, 1) := by decide +kernel
theorem dX12_next_67 : decode cX12_next 67 = .ok (.getfield 134, 3) := by decide +kernel
theorem dX12_next_70 : decode cX12_next 70 = .ok (.bipush 6, 2) := by decide +kernel
theorem dX12_next_72 : decode cX12_next 72 = .ok (.iload_n 3, 1) := by decide +kernel
theorem dX12_next_73 : decode cX12_next 73 = .ok (.imul, 1) := by decide +kernel
theorem dX12_next_74 : decode cX12_next 74 = .ok (.iload 4, 2) := by decide +kernel
theorem dX12_next_76 : decode cX12_next 76 = .ok (.iadd, 1) := by decide +kernel
theorem dX12_next_77 : decode cX12_next 77 = .ok (.iaload, 1) := by decide +kernel
theorem dX12_next_78 : decode cX12_next 78 = .ok (.if_icmp .eq 9, 3) := by decide +kernel
theorem dX12_next_81 : decode cX12_next 81 = .ok (.iinc 6 1, 3) := by decide +kernel
theorem dX12_next_84 : decode cX12_next 84 = .ok (.goto (-37), 3) := by decide +kernel
theorem dX12_next_87 : decode cX12_next 87 = .ok (.iload_n 3, 1) := by decide +kernel
theorem dX12_next_88 : decode cX12_next 88 = .ok (.iconst 1, 1) := by decide +kernel
theorem dX12_next_89 : decode cX12_next 89 = .ok (.iload 6, 2) := by decide +kernel
theorem dX12_next_91 : decode cX12_next 91 = .ok (.ishl, 1) := by decide +kernel
theorem dX12_next_92 : decode cX12_next 92 = .ok (.ior, 1) := by decide +kernel
theorem dX12_next_93 : decode cX12_next 93 = .ok (.istore_n 3, 1) := by decide +kernel
theorem dX12_next_94 : decode cX12_next 94 = .ok (.iload 6, 2) := by decide +kernel
theorem dX12_next_96 : decode cX12_next 96 = .ok (.istore 4, 2) := by decide +kernel
theorem dX12_next_98 : decode cX12_next 98 = .ok (.iinc 5 1, 3) := by decide +kernel
theorem dX12_next_101 : decode cX12_next 101 = .ok (.goto (-63), 3) := by decide +kernel
theorem dX12_next_104 : decode cX12_next 104 = .ok (.iload 4, 2) := by decide +kernel
theorem dX12_next_106 : decode cX12_next 106 = .ok (.ireturn, 1) := by decide +kernel
theorem dX12_pairedOf_0 : decode cX12_pairedOf 0 = .ok (.iload_n 1, 1) := by decide +kernel
theorem dX12_pairedOf_1 : decode cX12_pairedOf 1 = .ok (.invokestatic 453, 3) := by decide +kernel
theorem dX12_pairedOf_4 : decode cX12_pairedOf 4 = .ok (.istore_n 2, 1) := by decide +kernel
theorem dX12_pairedOf_5 : decode cX12_pairedOf 5 = .ok (.iload_n 1, 1) := by decide +kernel
theorem dX12_pairedOf_6 : decode cX12_pairedOf 6 = .ok (.iconst 1, 1) := by decide +kernel
theorem dX12_pairedOf_7 : decode cX12_pairedOf 7 = .ok (.iload_n 2, 1) := by decide +kernel
theorem dX12_pairedOf_8 : decode cX12_pairedOf 8 = .ok (.ishl, 1) := by decide +kernel
theorem dX12_pairedOf_9 : decode cX12_pairedOf 9 = .ok (.iconst (-1), 1) := by decide +kernel
theorem dX12_pairedOf_10 : decode cX12_pairedOf 10 = .ok (.ixor, 1) := by decide +kernel
theorem dX12_pairedOf_11 : decode cX12_pairedOf 11 = .ok (.iand, 1) := by decide +kernel
theorem dX12_pairedOf_12 : decode cX12_pairedOf 12 = .ok (.istore_n 3, 1) := by decide +kernel
theorem dX12_pairedOf_13 : decode cX12_pairedOf 13 = .ok (.iload_n 2, 1) := by decide +kernel
theorem dX12_pairedOf_14 : decode cX12_pairedOf 14 = .ok (.iconst 1, 1) := by decide +kernel
theorem dX12_pairedOf_15 : decode cX12_pairedOf 15 = .ok (.iadd, 1) := by decide +kernel
theorem dX12_pairedOf_16 : decode cX12_pairedOf 16 = .ok (.istore 4, 2) := by decide +kernel
theorem dX12_pairedOf_18 : decode cX12_pairedOf 18 = .ok (.iload 4, 2) := by decide +kernel
theorem dX12_pairedOf_20 : decode cX12_pairedOf 20 = .ok (.aload_n 0, 1) := by decide +kernel
theorem dX12_pairedOf_21 : decode cX12_pairedOf 21 = .ok (.invokevirtual 309, 3) := by decide +kernel
theorem dX12_pairedOf_24 : decode cX12_pairedOf 24 = .ok (.if_icmp .ge 39, 3) := by decide +kernel
theorem dX12_pairedOf_27 : decode cX12_pairedOf 27 = .ok (.iload_n 3, 1) := by decide +kernel
theorem dX12_pairedOf_28 : decode cX12_pairedOf 28 = .ok (.iload 4, 2) := by decide +kernel
theorem dX12_pairedOf_30 : decode cX12_pairedOf 30 = .ok (.ishr, 1) := by decide +kernel
theorem dX12_pairedOf_31 : decode cX12_pairedOf 31 = .ok (.iconst 1, 1) := by decide +kernel
theorem dX12_pairedOf_32 : decode cX12_pairedOf 32 = .ok (.iand, 1) := by decide +kernel
theorem dX12_pairedOf_33 : decode cX12_pairedOf 33 = .ok (.iconst 1, 1) := by decide +kernel
theorem dX12_pairedOf_34 : decode cX12_pairedOf 34 = .ok (.if_icmp .ne 23, 3) := by decide +kernel
theorem dX12_pairedOf_37 : decode cX12_pairedOf 37 = .ok (.aload_n 0, 1) := by decide +kernel
theorem dX12_pairedOf_38 : decode cX12_pairedOf 38 = .ok (.iload_n 2, 1) := by decide +kernel
theorem dX12_pairedOf_39 : decode cX12_pairedOf 39 = .ok (.iload 4, 2) := by decide +kernel
theorem dX12_pairedOf_41 : decode cX12_pairedOf 41 = .ok (.iload_n 3, 1) := by decide +kernel
theorem dX12_pairedOf_42 : decode cX12_pairedOf 42 = .ok (.invokevirtual 456, 3) := by decide +kernel
theorem dX12_pairedOf_45 : decode cX12_pairedOf 45 = .ok (.aload_n 0, 1) := by decide +kernel
theorem dX12_pairedOf_46 : decode cX12_pairedOf 46 = .ok (.getfield 146, 3) := by decide +kernel
theorem dX12_pairedOf_49 : decode cX12_pairedOf 49 = .ok (.iload_n 1, 1) := by decide +kernel
theorem dX12_pairedOf_50 : decode cX12_pairedOf 50 = .ok (.iaload, 1) := by decide +kernel
theorem dX12_pairedOf_51 : decode cX12_pairedOf 51 = .ok (.if_icmp .ne 6, 3) := by decide +kernel
theorem dX12_pairedOf_54 : decode cX12_pairedOf 54 = .ok (.iload 4, 2) := by decide +kernel
theorem dX12_pairedOf_56 : decode cX12_pairedOf 56 = .ok (.ireturn, 1) := by decide +kernel
theorem dX12_pairedOf_57 : decode cX12_pairedOf 57 = .ok (.iinc 4 1, 3) := by decide +kernel
theorem dX12_pairedOf_60 : decode cX12_pairedOf 60 = .ok (.goto (-42), 3) := by decide +kernel
theorem dX12_pairedOf_63 : decode cX12_pairedOf 63 = .ok (.bipush (-2), 2) := by decide +kernel
theorem dX12_pairedOf_65 : decode cX12_pairedOf 65 = .ok (.ireturn, 1) := by decide +kernel
theorem dX12_paired_0 : decode cX12_paired 0 = .ok (.iload_n 1, 1) := by decide +kernel
theorem dX12_paired_1 : decode cX12_paired 1 = .ok (.iconst (-1), 1) := by decide +kernel
theorem dX12_paired_2 : decode cX12_paired 2 = .ok (.if_icmp .eq 13, 3) := by decide +kernel
theorem dX12_paired_5 : decode cX12_paired 5 = .ok (.aload_n 0, 1) := by decide +kernel
theorem dX12_paired_6 : decode cX12_paired 6 = .ok (.iload_n 1, 1) := by decide +kernel
theorem dX12_paired_7 : decode cX12_paired 7 = .ok (.invokevirtual 371, 3) := by decide +kernel
theorem dX12_paired_10 : decode cX12_paired 10 = .ok (.ifCond .ne 5, 3) := by decide +kernel
theorem dX12_paired_13 : decode cX12_paired 13 = .ok (.iconst (-1), 1) := by decide +kernel
theorem dX12_paired_14 : decode cX12_paired 14 = .ok (.ireturn, 1) := by decide +kernel
theorem dX12_paired_15 : decode cX12_paired 15 = .ok (.aload_n 0, 1) := by decide +kernel
theorem dX12_paired_16 : decode cX12_paired 16 = .ok (.invokevirtual 459, 3) := by decide +kernel
theorem dX12_paired_19 : decode cX12_paired 19 = .ok (.iconst 1, 1) := by decide +kernel
theorem dX12_paired_20 : decode cX12_paired 20 = .ok (.aload_n 0, 1) := by decide +kernel
theorem dX12_paired_21 : decode cX12_paired 21 = .ok (.invokevirtual 309, 3) := by decide +kernel
theorem dX12_paired_24 : decode cX12_paired 24 = .ok (.ishl, 1) := by decide +kernel
theorem dX12_paired_25 : decode cX12_paired 25 = .ok (.iconst 1, 1) := by decide +kernel
theorem dX12_paired_26 : decode cX12_paired 26 = .ok (.isub, 1) := by decide +kernel
theorem dX12_paired_27 : decode cX12_paired 27 = .ok (.istore_n 2, 1) := by decide +kernel
theorem dX12_paired_28 : decode cX12_paired 28 = .ok (.iload_n 1, 1) := by decide +kernel
theorem dX12_paired_29 : decode cX12_paired 29 = .ok (.iconst (-1), 1) := by decide +kernel
theorem dX12_paired_30 : decode cX12_paired 30 = .ok (.if_icmp .ne 21, 3) := by decide +kernel
theorem dX12_paired_33 : decode cX12_paired 33 = .ok (.aload_n 0, 1) := by decide +kernel
theorem dX12_paired_34 : decode cX12_paired 34 = .ok (.getfield 146, 3) := by decide +kernel
theorem dX12_paired_37 : decode cX12_paired 37 = .ok (.iload_n 2, 1) := by decide +kernel
theorem dX12_paired_38 : decode cX12_paired 38 = .ok (.iaload, 1) := by decide +kernel
theorem dX12_paired_39 : decode cX12_paired 39 = .ok (.sipush 10000, 3) := by decide +kernel
theorem dX12_paired_42 : decode cX12_paired 42 = .ok (.aload_n 0, 1) := by decide +kernel
theorem dX12_paired_43 : decode cX12_paired 43 = .ok (.invokevirtual 309, 3) := by decide +kernel
theorem dX12_paired_46 : decode cX12_paired 46 = .ok (.iconst 2, 1) := by decide +kernel
theorem dX12_paired_47 : decode cX12_paired 47 = .ok (.idiv, 1) := by decide +kernel
theorem dX12_paired_48 : decode cX12_paired 48 = .ok (.imul, 1) := by decide +kernel
theorem dX12_paired_49 : decode cX12_paired 49 = .ok (.iadd, 1) := by decide +kernel
theorem dX12_paired_50 : decode cX12_paired 50 = .ok (.ireturn, 1) := by decide +kernel
theorem dX12_paired_51 : decode cX12_paired 51 = .ok (.iload_n 2, 1) := by decide +kernel
theorem dX12_paired_52 : decode cX12_paired 52 = .ok (.invokestatic 453, 3) := by decide +kernel
theorem dX12_paired_55 : decode cX12_paired 55 = .ok (.istore_n 3, 1) := by decide +kernel
theorem dX12_paired_56 : decode cX12_paired 56 = .ok (.aload_n 0, 1) := by decide +kernel
theorem dX12_paired_57 : decode cX12_paired 57 = .ok (.iload_n 2, 1) := by decide +kernel
theorem dX12_paired_58 : decode cX12_paired 58 = .ok (.invokevirtual 462, 3) := by decide +kernel
theorem dX12_paired_61 : decode cX12_paired 61 = .ok (.istore 4, 2) := by decide +kernel
theorem dX12_paired_63 : decode cX12_paired 63 = .ok (.iload_n 3, 1) := by decide +kernel
theorem dX12_paired_64 : decode cX12_paired 64 = .ok (.iload_n 1, 1) := by decide +kernel
theorem dX12_paired_65 : decode cX12_paired 65 = .ok (.if_icmp .ne 6, 3) := by decide +kernel
theorem dX12_paired_68 : decode cX12_paired 68 = .ok (.iload 4, 2) := by decide +kernel
theorem dX12_paired_70 : decode cX12_paired 70 = .ok (.ireturn, 1) := by decide +kernel
theorem dX12_paired_71 : decode cX12_paired 71 = .ok (.iload 4, 2) := by decide +kernel
theorem dX12_paired_73 : decode cX12_paired 73 = .ok (.iload_n 1, 1) := by decide +kernel
theorem dX12_paired_74 : decode cX12_paired 74 = .ok (.if_icmp .ne 5, 3) := by decide +kernel
theorem dX12_paired_77 : decode cX12_paired 77 = .ok (.iload_n 3, 1) := by decide +kernel
theorem dX12_paired_78 : decode cX12_paired 78 = .ok (.ireturn, 1) := by decide +kernel
theorem dX12_paired_79 : decode cX12_paired 79 = .ok (.iload_n 2, 1) := by decide +kernel
theorem dX12_paired_80 : decode cX12_paired 80 = .ok (.iconst 1, 1) := by decide +kernel
theorem dX12_paired_81 : decode cX12_paired 81 = .ok (.iload_n 3, 1) := by decide +kernel
theorem dX12_paired_82 : decode cX12_paired 82 = .ok (.ishl, 1) := by decide +kernel
theorem dX12_paired_83 : decode cX12_paired 83 = .ok (.iconst (-1), 1) := by decide +kernel
theorem dX12_paired_84 : decode cX12_paired 84 = .ok (.ixor, 1) := by decide +kernel
theorem dX12_paired_85 : decode cX12_paired 85 = .ok (.iand, 1) := by decide +kernel
theorem dX12_paired_86 : decode cX12_paired 86 = .ok (.istore_n 2, 1) := by decide +kernel
theorem dX12_paired_87 : decode cX12_paired 87 = .ok (.iload 4, 2) := by decide +kernel
theorem dX12_paired_89 : decode cX12_paired 89 = .ok (.ifCond .lt 12, 3) := by decide +kernel
theorem dX12_paired_92 : decode cX12_paired 92 = .ok (.iload_n 2, 1) := by decide +kernel
theorem dX12_paired_93 : decode cX12_paired 93 = .ok (.iconst 1, 1) := by decide +kernel
theorem dX12_paired_94 : decode cX12_paired 94 = .ok (.iload 4, 2) := by decide +kernel
theorem dX12_paired_96 : decode cX12_paired 96 = .ok (.ishl, 1) := by decide +kernel
theorem dX12_paired_97 : decode cX12_paired 97 = .ok (.iconst (-1), 1) := by decide +kernel
theorem dX12_paired_98 : decode cX12_paired 98 = .ok (.ixor, 1) := by decide +kernel
theorem dX12_paired_99 : decode cX12_paired 99 = .ok (.iand, 1) := by decide +kernel
theorem dX12_paired_100 : decode cX12_paired 100 = .ok (.istore_n 2, 1) := by decide +kernel
theorem dX12_paired_101 : decode cX12_paired 101 = .ok (.goto (-50), 3) := by decide +kernel
theorem dX12_pipes_0 : decode cX12_pipes 0 = .ok (.iconst 1, 1) := by decide +kernel
theorem dX12_pipes_1 : decode cX12_pipes 1 = .ok (.aload_n 0, 1) := by decide +kernel
theorem dX12_pipes_2 : decode cX12_pipes 2 = .ok (.invokevirtual 309, 3) := by decide +kernel
theorem dX12_pipes_5 : decode cX12_pipes 5 = .ok (.ishl, 1) := by decide +kernel
theorem dX12_pipes_6 : decode cX12_pipes 6 = .ok (.iconst 1, 1) := by decide +kernel
theorem dX12_pipes_7 : decode cX12_pipes 7 = .ok (.isub, 1) := by decide +kernel
theorem dX12_pipes_8 : decode cX12_pipes 8 = .ok (.istore_n 1, 1) := by decide +kernel
theorem dX12_pipes_9 : decode cX12_pipes 9 = .ok (.iload_n 1, 1) := by decide +kernel
theorem dX12_pipes_10 : decode cX12_pipes 10 = .ok (.iconst 1, 1) := by decide +kernel
theorem dX12_pipes_11 : decode cX12_pipes 11 = .ok (.iand, 1) := by decide +kernel
theorem dX12_pipes_12 : decode cX12_pipes 12 = .ok (.istore_n 2, 1) := by decide +kernel
theorem dX12_pipes_13 : decode cX12_pipes 13 = .ok (.iconst 0, 1) := by decide +kernel
theorem dX12_pipes_14 : decode cX12_pipes 14 = .ok (.istore_n 3, 1) := by decide +kernel
theorem dX12_pipes_15 : decode cX12_pipes 15 = .ok (.iload_n 2, 1) := by decide +kernel
theorem dX12_pipes_16 : decode cX12_pipes 16 = .ok (.iload_n 1, 1) := by decide +kernel
theorem dX12_pipes_17 : decode cX12_pipes 17 = .ok (.if_icmp .eq 101, 3) := by decide +kernel
theorem dX12_pipes_20 : decode cX12_pipes 20 = .ok (.iconst (-1), 1) := by decide +kernel
theorem dX12_pipes_21 : decode cX12_pipes 21 = .ok (.istore 4, 2) := by decide +kernel
theorem dX12_pipes_23 : decode cX12_pipes 23 = .ok (.iconst 0, 1) := by decide +kernel
theorem dX12_pipes_24 : decode cX12_pipes 24 = .ok (.istore 5, 2) := by decide +kernel
theorem dX12_pipes_26 : decode cX12_pipes 26 = .ok (.iload 5, 2) := by decide +kernel
theorem dX12_pipes_28 : decode cX12_pipes 28 = .ok (.aload_n 0, 1) := by decide +kernel
theorem dX12_pipes_29 : decode cX12_pipes 29 = .ok (.invokevirtual 309, 3) := by decide +kernel
theorem dX12_pipes_32 : decode cX12_pipes 32 = .ok (.if_icmp .ge 60, 3) := by decide +kernel
theorem dX12_pipes_35 : decode cX12_pipes 35 = .ok (.iload_n 2, 1) := by decide +kernel
theorem dX12_pipes_36 : decode cX12_pipes 36 = .ok (.iload 5, 2) := by decide +kernel
theorem dX12_pipes_38 : decode cX12_pipes 38 = .ok (.ishr, 1) := by decide +kernel
theorem dX12_pipes_39 : decode cX12_pipes 39 = .ok (.iconst 1, 1) := by decide +kernel
theorem dX12_pipes_40 : decode cX12_pipes 40 = .ok (.iand, 1) := by decide +kernel
theorem dX12_pipes_41 : decode cX12_pipes 41 = .ok (.iconst 1, 1) := by decide +kernel
theorem dX12_pipes_42 : decode cX12_pipes 42 = .ok (.if_icmp .ne 6, 3) := by decide +kernel
theorem dX12_pipes_45 : decode cX12_pipes 45 = .ok (.goto 41, 3) := by decide +kernel
theorem dX12_pipes_48 : decode cX12_pipes 48 = .ok (.iload 4, 2) := by decide +kernel
theorem dX12_pipes_50 : decode cX12_pipes 50 = .ok (.ifCond .lt 32, 3) := by decide +kernel
theorem dX12_pipes_53 : decode cX12_pipes 53 = .ok (.aload_n 0, 1) := by decide +kernel
theorem dX12_pipes_54 : decode cX12_pipes 54 = .ok (.iload 5, 2) := by decide +kernel
theorem dX12_pipes_56 : decode cX12_pipes 56 = .ok (.aload_n 0, 1) := by decide +kernel
theorem dX12_pipes_57 : decode cX12_pipes 57 = .ok (.iload 5, 2) := by decide +kernel
theorem dX12_pipes_59 : decode cX12_pipes 59 = .ok (.iload_n 2, 1) := by decide +kernel
theorem dX12_pipes_60 : decode cX12_pipes 60 = .ok (.invokevirtual 444, 3) := by decide +kernel
theorem dX12_pipes_63 : decode cX12_pipes 63 = .ok (.invokevirtual 435, 3) := by decide +kernel
theorem dX12_pipes_66 : decode cX12_pipes 66 = .ok (.aload_n 0, 1) := by decide +kernel
theorem dX12_pipes_67 : decode cX12_pipes 67 = .ok (.iload 4, 2) := by decide +kernel
theorem dX12_pipes_69 : decode cX12_pipes 69 = .ok (.aload_n 0, 1) := by decide +kernel
theorem dX12_pipes_70 : decode cX12_pipes 70 = .ok (.iload 4, 2) := by decide +kernel
theorem dX12_pipes_72 : decode cX12_pipes 72 = .ok (.iload_n 2, 1) := by decide +kernel
theorem dX12_pipes_73 : decode cX12_pipes 73 = .ok (.invokevirtual 444, 3) := by decide +kernel
theorem dX12_pipes_76 : decode cX12_pipes 76 = .ok (.invokevirtual 435, 3) := by decide +kernel
theorem dX12_pipes_79 : decode cX12_pipes 79 = .ok (.if_icmp .ge 7, 3) := by decide +kernel
theorem dX12_pipes_82 : decode cX12_pipes 82 = .ok (.iload 5, 2) := by decide +kernel
theorem dX12_pipes_84 : decode cX12_pipes 84 = .ok (.istore 4, 2) := by decide +kernel
theorem dX12_pipes_86 : decode cX12_pipes 86 = .ok (.iinc 5 1, 3) := by decide +kernel
theorem dX12_pipes_89 : decode cX12_pipes 89 = .ok (.goto (-63), 3) := by decide +kernel
theorem dX12_pipes_92 : decode cX12_pipes 92 = .ok (.iload_n 3, 1) := by decide +kernel
theorem dX12_pipes_93 : decode cX12_pipes 93 = .ok (.aload_n 0, 1) := by decide +kernel
theorem dX12_pipes_94 : decode cX12_pipes 94 = .ok (.iload 4, 2) := by decide +kernel
theorem dX12_pipes_96 : decode cX12_pipes 96 = .ok (.aload_n 0, 1) := by decide +kernel
theorem dX12_pipes_97 : decode cX12_pipes 97 = .ok (.iload 4, 2) := by decide +kernel
theorem dX12_pipes_99 : decode cX12_pipes 99 = .ok (.iload_n 2, 1) := by decide +kernel
theorem dX12_pipes_100 : decode cX12_pipes 100 = .ok (.invokevirtual 444, 3) := by decide +kernel
theorem dX12_pipes_103 : decode cX12_pipes 103 = .ok (.invokevirtual 435, 3) := by decide +kernel
theorem dX12_pipes_106 : decode cX12_pipes 106 = .ok (.iadd, 1) := by decide +kernel
theorem dX12_pipes_107 : decode cX12_pipes 107 = .ok (.istore_n 3, 1) := by decide +kernel
theorem dX12_pipes_108 : decode cX12_pipes 108 = .ok (.iload_n 2, 1) := by decide +kernel
theorem dX12_pipes_109 : decode cX12_pipes 109 = .ok (.iconst 1, 1) := by decide +kernel
theorem dX12_pipes_110 : decode cX12_pipes 110 = .ok (.iload 4, 2) := by decide +kernel
theorem dX12_pipes_112 : decode cX12_pipes 112 = .ok (.ishl, 1) := by decide +kernel
theorem dX12_pipes_113 : decode cX12_pipes 113 = .ok (.ior, 1) := by decide +kernel
theorem dX12_pipes_114 : decode cX12_pipes 114 = .ok (.istore_n 2, 1) := by decide +kernel
theorem dX12_pipes_115 : decode cX12_pipes 115 = .ok (.goto (-100), 3) := by decide +kernel
theorem dX12_pipes_118 : decode cX12_pipes 118 = .ok (.iload_n 3, 1) := by decide +kernel
theorem dX12_pipes_119 : decode cX12_pipes 119 = .ok (.ireturn, 1) := by decide +kernel
theorem dX12_place_0 : decode cX12_place 0 = .ok (.aload_n 0, 1) := by decide +kernel
theorem dX12_place_1 : decode cX12_place 1 = .ok (.getfield 37, 3) := by decide +kernel
theorem dX12_place_4 : decode cX12_place 4 = .ok (.ireturn, 1) := by decide +kernel
theorem dX12_plain_0 : decode cX12_plain 0 = .ok (.aload_n 0, 1) := by decide +kernel
theorem dX12_plain_1 : decode cX12_plain 1 = .ok (.getfield 43, 3) := by decide +kernel
theorem dX12_plain_4 : decode cX12_plain 4 = .ok (.iload_n 1, 1) := by decide +kernel
theorem dX12_plain_5 : decode cX12_plain 5 = .ok (.iconst 0, 1) := by decide +kernel
theorem dX12_plain_6 : decode cX12_plain 6 = .ok (.iastore, 1) := by decide +kernel
theorem dX12_plain_7 : decode cX12_plain 7 = .ok (.aload_n 0, 1) := by decide +kernel
theorem dX12_plain_8 : decode cX12_plain 8 = .ok (.getfield 61, 3) := by decide +kernel
theorem dX12_plain_11 : decode cX12_plain 11 = .ok (.iload_n 1, 1) := by decide +kernel
theorem dX12_plain_12 : decode cX12_plain 12 = .ok (.bipush 20, 2) := by decide +kernel
theorem dX12_plain_14 : decode cX12_plain 14 = .ok (.iastore, 1) := by decide +kernel
theorem dX12_plain_15 : decode cX12_plain 15 = .ok (.aload_n 0, 1) := by decide +kernel
theorem dX12_plain_16 : decode cX12_plain 16 = .ok (.getfield 64, 3) := by decide +kernel
theorem dX12_plain_19 : decode cX12_plain 19 = .ok (.iload_n 1, 1) := by decide +kernel
theorem dX12_plain_20 : decode cX12_plain 20 = .ok (.bipush 20, 2) := by decide +kernel
theorem dX12_plain_22 : decode cX12_plain 22 = .ok (.iastore, 1) := by decide +kernel
theorem dX12_plain_23 : decode cX12_plain 23 = .ok (.aload_n 0, 1) := by decide +kernel
theorem dX12_plain_24 : decode cX12_plain 24 = .ok (.getfield 67, 3) := by decide +kernel
theorem dX12_plain_27 : decode cX12_plain 27 = .ok (.iload_n 1, 1) := by decide +kernel
theorem dX12_plain_28 : decode cX12_plain 28 = .ok (.iconst 0, 1) := by decide +kernel
theorem dX12_plain_29 : decode cX12_plain 29 = .ok (.iastore, 1) := by decide +kernel
theorem dX12_plain_30 : decode cX12_plain 30 = .ok (.aload_n 0, 1) := by decide +kernel
theorem dX12_plain_31 : decode cX12_plain 31 = .ok (.getfield 70, 3) := by decide +kernel
theorem dX12_plain_34 : decode cX12_plain 34 = .ok (.iload_n 1, 1) := by decide +kernel
theorem dX12_plain_35 : decode cX12_plain 35 = .ok (.iconst 0, 1) := by decide +kernel
theorem dX12_plain_36 : decode cX12_plain 36 = .ok (.iastore, 1) := by decide +kernel
theorem dX12_plain_37 : decode cX12_plain 37 = .ok (.iconst 0, 1) := by decide +kernel
theorem dX12_plain_38 : decode cX12_plain 38 = .ok (.istore_n 2, 1) := by decide +kernel
theorem dX12_plain_39 : decode cX12_plain 39 = .ok (.iload_n 2, 1) := by decide +kernel
theorem dX12_plain_40 : decode cX12_plain 40 = .ok (.iconst 4, 1) := by decide +kernel
theorem dX12_plain_41 : decode cX12_plain 41 = .ok (.if_icmp .ge 31, 3) := by decide +kernel
theorem dX12_plain_44 : decode cX12_plain 44 = .ok (.aload_n 0, 1) := by decide +kernel
theorem dX12_plain_45 : decode cX12_plain 45 = .ok (.getfield 73, 3) := by decide +kernel
theorem dX12_plain_48 : decode cX12_plain 48 = .ok (.iconst 4, 1) := by decide +kernel
theorem dX12_plain_49 : decode cX12_plain 49 = .ok (.iload_n 1, 1) := by decide +kernel
theorem dX12_plain_50 : decode cX12_plain 50 = .ok (.imul, 1) := by decide +kernel
theorem dX12_plain_51 : decode cX12_plain 51 = .ok (.iload_n 2, 1) := by decide +kernel
theorem dX12_plain_52 : decode cX12_plain 52 = .ok (.iadd, 1) := by decide +kernel
theorem dX12_plain_53 : decode cX12_plain 53 = .ok (.iconst 0, 1) := by decide +kernel
theorem dX12_plain_54 : decode cX12_plain 54 = .ok (.iastore, 1) := by decide +kernel
theorem dX12_plain_55 : decode cX12_plain 55 = .ok (.aload_n 0, 1) := by decide +kernel
theorem dX12_plain_56 : decode cX12_plain 56 = .ok (.getfield 76, 3) := by decide +kernel
theorem dX12_plain_59 : decode cX12_plain 59 = .ok (.iconst 4, 1) := by decide +kernel
theorem dX12_plain_60 : decode cX12_plain 60 = .ok (.iload_n 1, 1) := by decide +kernel
theorem dX12_plain_61 : decode cX12_plain 61 = .ok (.imul, 1) := by decide +kernel
theorem dX12_plain_62 : decode cX12_plain 62 = .ok (.iload_n 2, 1) := by decide +kernel
theorem dX12_plain_63 : decode cX12_plain 63 = .ok (.iadd, 1) := by decide +kernel
theorem dX12_plain_64 : decode cX12_plain 64 = .ok (.iconst 0, 1) := by decide +kernel
theorem dX12_plain_65 : decode cX12_plain 65 = .ok (.iastore, 1) := by decide +kernel
theorem dX12_plain_66 : decode cX12_plain 66 = .ok (.iinc 2 1, 3) := by decide +kernel
theorem dX12_plain_69 : decode cX12_plain 69 = .ok (.goto (-30), 3) := by decide +kernel
theorem dX12_plain_72 : decode cX12_plain 72 = .ok (.return_, 1) := by decide +kernel
theorem dX12_plan_0 : decode cX12_plan 0 = .ok (.iload_n 1, 1) := by decide +kernel
theorem dX12_plan_1 : decode cX12_plan 1 = .ok (.iconst 0, 1) := by decide +kernel
theorem dX12_plan_2 : decode cX12_plan 2 = .ok (.bipush 10, 2) := by decide +kernel
theorem dX12_plan_4 : decode cX12_plan 4 = .ok (.invokestatic 313, 3) := by decide +kernel
theorem dX12_plan_7 : decode cX12_plan 7 = .ok (.ifCond .eq 12, 3) := by decide +kernel
theorem dX12_plan_10 : decode cX12_plan 10 = .ok (.iload_n 2, 1) := by decide +kernel
theorem dX12_plan_11 : decode cX12_plan 11 = .ok (.iconst 0, 1) := by decide +kernel
theorem dX12_plan_12 : decode cX12_plan 12 = .ok (.iconst 2, 1) := by decide +kernel
theorem dX12_plan_13 : decode cX12_plan 13 = .ok (.invokestatic 313, 3) := by decide +kernel
theorem dX12_plan_16 : decode cX12_plan 16 = .ok (.ifCond .ne 5, 3) := by decide +kernel
theorem dX12_plan_19 : decode cX12_plan 19 = .ok (.iconst (-1), 1) := by decide +kernel
theorem dX12_plan_20 : decode cX12_plan 20 = .ok (.ireturn, 1) := by decide +kernel
theorem dX12_plan_21 : decode cX12_plan 21 = .ok (.iconst (-1), 1) := by decide +kernel
theorem dX12_plan_22 : decode cX12_plan 22 = .ok (.istore_n 3, 1) := by decide +kernel
theorem dX12_plan_23 : decode cX12_plan 23 = .ok (.iconst 0, 1) := by decide +kernel
theorem dX12_plan_24 : decode cX12_plan 24 = .ok (.istore 4, 2) := by decide +kernel
theorem dX12_plan_26 : decode cX12_plan 26 = .ok (.iconst 0, 1) := by decide +kernel
theorem dX12_plan_27 : decode cX12_plan 27 = .ok (.istore 5, 2) := by decide +kernel
theorem dX12_plan_29 : decode cX12_plan 29 = .ok (.iconst 0, 1) := by decide +kernel
theorem dX12_plan_30 : decode cX12_plan 30 = .ok (.istore 6, 2) := by decide +kernel
theorem dX12_plan_32 : decode cX12_plan 32 = .ok (.iload 6, 2) := by decide +kernel
theorem dX12_plan_34 : decode cX12_plan 34 = .ok (.iload_n 1, 1) := by decide +kernel
theorem dX12_plan_35 : decode cX12_plan 35 = .ok (.if_icmp .gt 138, 3) := by decide +kernel
theorem dX12_plan_38 : decode cX12_plan 38 = .ok (.aload_n 0, 1) := by decide +kernel
theorem dX12_plan_39 : decode cX12_plan 39 = .ok (.invokevirtual 407, 3) := by decide +kernel
theorem dX12_plan_42 : decode cX12_plan 42 = .ok (.aload_n 0, 1) := by decide +kernel
theorem dX12_plan_43 : decode cX12_plan 43 = .ok (.iload 6, 2) := by decide +kernel
theorem dX12_plan_45 : decode cX12_plan 45 = .ok (.invokevirtual 410, 3) := by decide +kernel
theorem dX12_plan_48 : decode cX12_plan 48 = .ok (.iconst 0, 1) := by decide +kernel
theorem dX12_plan_49 : decode cX12_plan 49 = .ok (.istore 7, 2) := by decide +kernel
theorem dX12_plan_51 : decode cX12_plan 51 = .ok (.iload 7, 2) := by decide +kernel
theorem dX12_plan_53 : decode cX12_plan 53 = .ok (.bipush 39, 2) := by decide +kernel
theorem dX12_plan_55 : decode cX12_plan 55 = .ok (.if_icmp .ge 23, 3) := by decide +kernel
theorem dX12_plan_58 : decode cX12_plan 58 = .ok (.aload_n 0, 1) := by decide +kernel
theorem dX12_plan_59 : decode cX12_plan 59 = .ok (.getfield 131, 3) := by decide +kernel
theorem dX12_plan_62 : decode cX12_plan 62 = .ok (.iload 7, 2) := by decide +kernel
theorem dX12_plan_64 : decode cX12_plan 64 = .ok (.aload_n 0, 1) := by decide +kernel
theorem dX12_plan_65 : decode cX12_plan 65 = .ok (.getfield 113, 3) := by decide +kernel
theorem dX12_plan_68 : decode cX12_plan 68 = .ok (.iload 7, 2) := by decide +kernel
theorem dX12_plan_70 : decode cX12_plan 70 = .ok (.iaload, 1) := by decide +kernel
theorem dX12_plan_71 : decode cX12_plan 71 = .ok (.iastore, 1) := by decide +kernel
theorem dX12_plan_72 : decode cX12_plan 72 = .ok (.iinc 7 1, 3) := by decide +kernel
theorem dX12_plan_75 : decode cX12_plan 75 = .ok (.goto (-24), 3) := by decide +kernel
theorem dX12_plan_78 : decode cX12_plan 78 = .ok (.iconst 0, 1) := by decide +kernel
theorem dX12_plan_79 : decode cX12_plan 79 = .ok (.istore 7, 2) := by decide +kernel
theorem dX12_plan_81 : decode cX12_plan 81 = .ok (.iload 7, 2) := by decide +kernel
theorem dX12_plan_83 : decode cX12_plan 83 = .ok (.iload_n 1, 1) := by decide +kernel
theorem dX12_plan_84 : decode cX12_plan 84 = .ok (.iload 6, 2) := by decide +kernel
theorem dX12_plan_86 : decode cX12_plan 86 = .ok (.isub, 1) := by decide +kernel
theorem dX12_plan_87 : decode cX12_plan 87 = .ok (.if_icmp .gt 80, 3) := by decide +kernel
theorem dX12_plan_90 : decode cX12_plan 90 = .ok (.iconst 0, 1) := by decide +kernel
theorem dX12_plan_91 : decode cX12_plan 91 = .ok (.istore 8, 2) := by decide +kernel
theorem dX12_plan_93 : decode cX12_plan 93 = .ok (.iload 8, 2) := by decide +kernel
theorem dX12_plan_95 : decode cX12_plan 95 = .ok (.bipush 39, 2) := by decide +kernel
theorem dX12_plan_97 : decode cX12_plan 97 = .ok (.if_icmp .ge 23, 3) := by decide +kernel
theorem dX12_plan_100 : decode cX12_plan 100 = .ok (.aload_n 0, 1) := by decide +kernel
theorem dX12_plan_101 : decode cX12_plan 101 = .ok (.getfield 113, 3) := by decide +kernel
theorem dX12_plan_104 : decode cX12_plan 104 = .ok (.iload 8, 2) := by decide +kernel
theorem dX12_plan_106 : decode cX12_plan 106 = .ok (.aload_n 0, 1) := by decide +kernel
theorem dX12_plan_107 : decode cX12_plan 107 = .ok (.getfield 131, 3) := by decide +kernel
theorem dX12_plan_110 : decode cX12_plan 110 = .ok (.iload 8, 2) := by decide +kernel
theorem dX12_plan_112 : decode cX12_plan 112 = .ok (.iaload, 1) := by decide +kernel
theorem dX12_plan_113 : decode cX12_plan 113 = .ok (.iastore, 1) := by decide +kernel
theorem dX12_plan_114 : decode cX12_plan 114 = .ok (.iinc 8 1, 3) := by decide +kernel
theorem dX12_plan_117 : decode cX12_plan 117 = .ok (.goto (-24), 3) := by decide +kernel
theorem dX12_plan_120 : decode cX12_plan 120 = .ok (.aload_n 0, 1) := by decide +kernel
theorem dX12_plan_121 : decode cX12_plan 121 = .ok (.iload 7, 2) := by decide +kernel
theorem dX12_plan_123 : decode cX12_plan 123 = .ok (.invokevirtual 410, 3) := by decide +kernel
theorem dX12_plan_126 : decode cX12_plan 126 = .ok (.aload_n 0, 1) := by decide +kernel
theorem dX12_plan_127 : decode cX12_plan 127 = .ok (.iload_n 1, 1) := by decide +kernel
theorem dX12_plan_128 : decode cX12_plan 128 = .ok (.iload 6, 2) := by decide +kernel
theorem dX12_plan_130 : decode cX12_plan 130 = .ok (.isub, 1) := by decide +kernel
theorem dX12_plan_131 : decode cX12_plan 131 = .ok (.iload 7, 2) := by decide +kernel
theorem dX12_plan_133 : decode cX12_plan 133 = .ok (.isub, 1) := by decide +kernel
theorem dX12_plan_134 : decode cX12_plan 134 = .ok (.invokevirtual 410, 3) := by decide +kernel
theorem dX12_plan_137 : decode cX12_plan 137 = .ok (.aload_n 0, 1) := by decide +kernel
theorem dX12_plan_138 : decode cX12_plan 138 = .ok (.invokevirtual 413, 3) := by decide +kernel
theorem dX12_plan_141 : decode cX12_plan 141 = .ok (.iload_n 3, 1) := by decide +kernel
theorem dX12_plan_142 : decode cX12_plan 142 = .ok (.if_icmp .gt 6, 3) := by decide +kernel
theorem dX12_plan_145 : decode cX12_plan 145 = .ok (.goto 16, 3) := by decide +kernel
theorem dX12_plan_148 : decode cX12_plan 148 = .ok (.aload_n 0, 1) := by decide +kernel
theorem dX12_plan_149 : decode cX12_plan 149 = .ok (.invokevirtual 413, 3) := by decide +kernel
theorem dX12_plan_152 : decode cX12_plan 152 = .ok (.istore_n 3, 1) := by decide +kernel
theorem dX12_plan_153 : decode cX12_plan 153 = .ok (.iload 6, 2) := by decide +kernel
theorem dX12_plan_155 : decode cX12_plan 155 = .ok (.istore 4, 2) := by decide +kernel
theorem dX12_plan_157 : decode cX12_plan 157 = .ok (.iload 7, 2) := by decide +kernel
theorem dX12_plan_159 : decode cX12_plan 159 = .ok (.istore 5, 2) := by decide +kernel
theorem dX12_plan_161 : decode cX12_plan 161 = .ok (.iinc 7 1, 3) := by decide +kernel
theorem dX12_plan_164 : decode cX12_plan 164 = .ok (.goto (-83), 3) := by decide +kernel
theorem dX12_plan_167 : decode cX12_plan 167 = .ok (.iinc 6 1, 3) := by decide +kernel
theorem dX12_plan_170 : decode cX12_plan 170 = .ok (.goto (-138), 3) := by decide +kernel
theorem dX12_plan_173 : decode cX12_plan 173 = .ok (.iload_n 2, 1) := by decide +kernel
theorem dX12_plan_174 : decode cX12_plan 174 = .ok (.ifCond .ne 7, 3) := by decide +kernel
theorem dX12_plan_177 : decode cX12_plan 177 = .ok (.iload_n 3, 1) := by decide +kernel
theorem dX12_plan_178 : decode cX12_plan 178 = .ok (.goto 15, 3) := by decide +kernel
theorem dX12_plan_181 : decode cX12_plan 181 = .ok (.iload_n 2, 1) := by decide +kernel
theorem dX12_plan_182 : decode cX12_plan 182 = .ok (.iconst 1, 1) := by decide +kernel
theorem dX12_plan_183 : decode cX12_plan 183 = .ok (.if_icmp .ne 8, 3) := by decide +kernel
theorem dX12_plan_186 : decode cX12_plan 186 = .ok (.iload 4, 2) := by decide +kernel
theorem dX12_plan_188 : decode cX12_plan 188 = .ok (.goto 5, 3) := by decide +kernel
theorem dX12_plan_191 : decode cX12_plan 191 = .ok (.iload 5, 2) := by decide +kernel
theorem dX12_plan_193 : decode cX12_plan 193 = .ok (.ireturn, 1) := by decide +kernel
theorem dX12_tellHouse_0 : decode cX12_tellHouse 0 = .ok (.aload_n 0, 1) := by decide +kernel
theorem dX12_tellHouse_1 : decode cX12_tellHouse 1 = .ok (.invokevirtual 236, 3) := by decide +kernel
theorem dX12_tellHouse_4 : decode cX12_tellHouse 4 = .ok (.bipush 6, 2) := by decide +kernel
theorem dX12_tellHouse_6 : decode cX12_tellHouse 6 = .ok (.aload_n 0, 1) := by decide +kernel
theorem dX12_tellHouse_7 : decode cX12_tellHouse 7 = .ok (.getfield 248, 3) := by decide +kernel
theorem dX12_tellHouse_10 : decode cX12_tellHouse 10 = .ok (.imul, 1) := by decide +kernel
theorem dX12_tellHouse_11 : decode cX12_tellHouse 11 = .ok (.aload_n 0, 1) := by decide +kernel
theorem dX12_tellHouse_12 : decode cX12_tellHouse 12 = .ok (.getfield 43, 3) := by decide +kernel
theorem dX12_tellHouse_15 : decode cX12_tellHouse 15 = .ok (.aload_n 0, 1) := by decide +kernel
theorem dX12_tellHouse_16 : decode cX12_tellHouse 16 = .ok (.getfield 248, 3) := by decide +kernel
theorem dX12_tellHouse_19 : decode cX12_tellHouse 19 = .ok (.iaload, 1) := by decide +kernel
theorem dX12_tellHouse_20 : decode cX12_tellHouse 20 = .ok (.iadd, 1) := by decide +kernel
theorem dX12_tellHouse_21 : decode cX12_tellHouse 21 = .ok (.istore_n 1, 1) := by decide +kernel
theorem dX12_tellHouse_22 : decode cX12_tellHouse 22 = .ok (.aload_n 0, 1) := by decide +kernel
theorem dX12_tellHouse_23 : decode cX12_tellHouse 23 = .ok (.getfield 218, 3) := by decide +kernel
theorem dX12_tellHouse_26 : decode cX12_tellHouse 26 = .ok (.istore_n 2, 1) := by decide +kernel
theorem dX12_tellHouse_27 : decode cX12_tellHouse 27 = .ok (.aload_n 0, 1) := by decide +kernel
theorem dX12_tellHouse_28 : decode cX12_tellHouse 28 = .ok (.iconst 1, 1) := by decide +kernel
theorem dX12_tellHouse_29 : decode cX12_tellHouse 29 = .ok (.invokevirtual 270, 3) := by decide +kernel
theorem dX12_tellHouse_32 : decode cX12_tellHouse 32 = .ok (.iconst 0, 1) := by decide +kernel
theorem dX12_tellHouse_33 : decode cX12_tellHouse 33 = .ok (.istore_n 3, 1) := by decide +kernel
theorem dX12_tellHouse_34 : decode cX12_tellHouse 34 = .ok (.iload_n 3, 1) := by decide +kernel
theorem dX12_tellHouse_35 : decode cX12_tellHouse 35 = .ok (.aload_n 0, 1) := by decide +kernel
theorem dX12_tellHouse_36 : decode cX12_tellHouse 36 = .ok (.getfield 43, 3) := by decide +kernel
theorem dX12_tellHouse_39 : decode cX12_tellHouse 39 = .ok (.aload_n 0, 1) := by decide +kernel
theorem dX12_tellHouse_40 : decode cX12_tellHouse 40 = .ok (.getfield 248, 3) := by decide +kernel
theorem dX12_tellHouse_43 : decode cX12_tellHouse 43 = .ok (.iaload, 1) := by decide +kernel
theorem dX12_tellHouse_44 : decode cX12_tellHouse 44 = .ok (.if_icmp .ge 38, 3) := by decide +kernel
theorem dX12_tellHouse_47 : decode cX12_tellHouse 47 = .ok (.aload_n 0, 1) := by decide +kernel
theorem dX12_tellHouse_48 : decode cX12_tellHouse 48 = .ok (.getfield 215, 3) := by decide +kernel
theorem dX12_tellHouse_51 : decode cX12_tellHouse 51 = .ok (.ifCond .ne 31, 3) := by decide +kernel
theorem dX12_tellHouse_54 : decode cX12_tellHouse 54 = .ok (.aload_n 0, 1) := by decide +kernel
theorem dX12_tellHouse_55 : decode cX12_tellHouse 55 = .ok (.getfield 40, 3) := by decide +kernel
theorem dX12_tellHouse_58 : decode cX12_tellHouse 58 = .ok (.iload_n 3, 1) := by decide +kernel
theorem dX12_tellHouse_59 : decode cX12_tellHouse 59 = .ok (.laload, 1) := by decide +kernel
theorem dX12_tellHouse_60 : decode cX12_tellHouse 60 = .ok (.aload_n 0, 1) := by decide +kernel
theorem dX12_tellHouse_61 : decode cX12_tellHouse 61 = .ok (.getfield 30, 3) := by decide +kernel
theorem dX12_tellHouse_64 : decode cX12_tellHouse 64 = .ok (.iload_n 2, 1) := by decide +kernel
theorem dX12_tellHouse_65 : decode cX12_tellHouse 65 = .ok (.laload, 1) := by decide +kernel
theorem dX12_tellHouse_66 : decode cX12_tellHouse 66 = .ok (.lcmp, 1) := by decide +kernel
theorem dX12_tellHouse_67 : decode cX12_tellHouse 67 = .ok (.ifCond .ne 9, 3) := by decide +kernel
theorem dX12_tellHouse_70 : decode cX12_tellHouse 70 = .ok (.aload_n 0, 1) := by decide +kernel
theorem dX12_tellHouse_71 : decode cX12_tellHouse 71 = .ok (.iconst 3, 1) := by decide +kernel
theorem dX12_tellHouse_72 : decode cX12_tellHouse 72 = .ok (.iload_n 2, 1) := by decide +kernel
theorem dX12_tellHouse_73 : decode cX12_tellHouse 73 = .ok (.invokevirtual 282, 3) := by decide +kernel
theorem dX12_tellHouse_76 : decode cX12_tellHouse 76 = .ok (.iinc 3 1, 3) := by decide +kernel
theorem dX12_tellHouse_79 : decode cX12_tellHouse 79 = .ok (.goto (-45), 3) := by decide +kernel
theorem dX12_tellHouse_82 : decode cX12_tellHouse 82 = .ok (.aload_n 0, 1) := by decide +kernel
theorem dX12_tellHouse_83 : decode cX12_tellHouse 83 = .ok (.getfield 46, 3) := by decide +kernel
theorem dX12_tellHouse_86 : decode cX12_tellHouse 86 = .ok (.iload_n 1, 1) := by decide +kernel
theorem dX12_tellHouse_87 : decode cX12_tellHouse 87 = .ok (.aload_n 0, 1) := by decide +kernel
theorem dX12_tellHouse_88 : decode cX12_tellHouse 88 = .ok (.iconst 1, 1) := by decide +kernel
theorem dX12_tellHouse_89 : decode cX12_tellHouse 89 = .ok (.bipush 20, 2) := by decide +kernel
theorem dX12_tellHouse_91 : decode cX12_tellHouse 91 = .ok (.invokevirtual 266, 3) := by decide +kernel
theorem dX12_tellHouse_94 : decode cX12_tellHouse 94 = .ok (.iastore, 1) := by decide +kernel
theorem dX12_tellHouse_95 : decode cX12_tellHouse 95 = .ok (.aload_n 0, 1) := by decide +kernel
theorem dX12_tellHouse_96 : decode cX12_tellHouse 96 = .ok (.getfield 49, 3) := by decide +kernel
theorem dX12_tellHouse_99 : decode cX12_tellHouse 99 = .ok (.iload_n 1, 1) := by decide +kernel
theorem dX12_tellHouse_100 : decode cX12_tellHouse 100 = .ok (.aload_n 0, 1) := by decide +kernel
theorem dX12_tellHouse_101 : decode cX12_tellHouse 101 = .ok (.iconst 0, 1) := by decide +kernel
theorem dX12_tellHouse_102 : decode cX12_tellHouse 102 = .ok (.bipush 99, 2) := by decide +kernel
theorem dX12_tellHouse_104 : decode cX12_tellHouse 104 = .ok (.invokevirtual 266, 3) := by decide +kernel
theorem dX12_tellHouse_107 : decode cX12_tellHouse 107 = .ok (.iastore, 1) := by decide +kernel
theorem dX12_tellHouse_108 : decode cX12_tellHouse 108 = .ok (.aload_n 0, 1) := by decide +kernel
theorem dX12_tellHouse_109 : decode cX12_tellHouse 109 = .ok (.getfield 52, 3) := by decide +kernel
theorem dX12_tellHouse_112 : decode cX12_tellHouse 112 = .ok (.iload_n 1, 1) := by decide +kernel
theorem dX12_tellHouse_113 : decode cX12_tellHouse 113 = .ok (.aload_n 0, 1) := by decide +kernel
theorem dX12_tellHouse_114 : decode cX12_tellHouse 114 = .ok (.iconst 0, 1) := by decide +kernel
theorem dX12_tellHouse_115 : decode cX12_tellHouse 115 = .ok (.sipush 999, 3) := by decide +kernel
theorem dX12_tellHouse_118 : decode cX12_tellHouse 118 = .ok (.invokevirtual 266, 3) := by decide +kernel
theorem dX12_tellHouse_121 : decode cX12_tellHouse 121 = .ok (.iastore, 1) := by decide +kernel
theorem dX12_tellHouse_122 : decode cX12_tellHouse 122 = .ok (.aload_n 0, 1) := by decide +kernel
theorem dX12_tellHouse_123 : decode cX12_tellHouse 123 = .ok (.getfield 55, 3) := by decide +kernel
theorem dX12_tellHouse_126 : decode cX12_tellHouse 126 = .ok (.iload_n 1, 1) := by decide +kernel
theorem dX12_tellHouse_127 : decode cX12_tellHouse 127 = .ok (.aload_n 0, 1) := by decide +kernel
theorem dX12_tellHouse_128 : decode cX12_tellHouse 128 = .ok (.iconst 0, 1) := by decide +kernel
theorem dX12_tellHouse_129 : decode cX12_tellHouse 129 = .ok (.bipush 99, 2) := by decide +kernel
theorem dX12_tellHouse_131 : decode cX12_tellHouse 131 = .ok (.invokevirtual 266, 3) := by decide +kernel
theorem dX12_tellHouse_134 : decode cX12_tellHouse 134 = .ok (.iastore, 1) := by decide +kernel
theorem dX12_tellHouse_135 : decode cX12_tellHouse 135 = .ok (.aload_n 0, 1) := by decide +kernel
theorem dX12_tellHouse_136 : decode cX12_tellHouse 136 = .ok (.getfield 58, 3) := by decide +kernel
theorem dX12_tellHouse_139 : decode cX12_tellHouse 139 = .ok (.iload_n 1, 1) := by decide +kernel
theorem dX12_tellHouse_140 : decode cX12_tellHouse 140 = .ok (.aload_n 0, 1) := by decide +kernel
theorem dX12_tellHouse_141 : decode cX12_tellHouse 141 = .ok (.iconst 0, 1) := by decide +kernel
theorem dX12_tellHouse_142 : decode cX12_tellHouse 142 = .ok (.bipush 99, 2) := by decide +kernel
theorem dX12_tellHouse_144 : decode cX12_tellHouse 144 = .ok (.invokevirtual 266, 3) := by decide +kernel
theorem dX12_tellHouse_147 : decode cX12_tellHouse 147 = .ok (.iastore, 1) := by decide +kernel
theorem dX12_tellHouse_148 : decode cX12_tellHouse 148 = .ok (.aload_n 0, 1) := by decide +kernel
theorem dX12_tellHouse_149 : decode cX12_tellHouse 149 = .ok (.iconst 4, 1) := by decide +kernel
theorem dX12_tellHouse_150 : decode cX12_tellHouse 150 = .ok (.invokevirtual 270, 3) := by decide +kernel
theorem dX12_tellHouse_153 : decode cX12_tellHouse 153 = .ok (.aload_n 0, 1) := by decide +kernel
theorem dX12_tellHouse_154 : decode cX12_tellHouse 154 = .ok (.getfield 215, 3) := by decide +kernel
theorem dX12_tellHouse_157 : decode cX12_tellHouse 157 = .ok (.ifCond .le 4, 3) := by decide +kernel
theorem dX12_tellHouse_160 : decode cX12_tellHouse 160 = .ok (.return_, 1) := by decide +kernel
theorem dX12_tellHouse_161 : decode cX12_tellHouse 161 = .ok (.aload_n 0, 1) := by decide +kernel
theorem dX12_tellHouse_162 : decode cX12_tellHouse 162 = .ok (.getfield 40, 3) := by decide +kernel
theorem dX12_tellHouse_165 : decode cX12_tellHouse 165 = .ok (.aload_n 0, 1) := by decide +kernel
theorem dX12_tellHouse_166 : decode cX12_tellHouse 166 = .ok (.getfield 43, 3) := by decide +kernel
theorem dX12_tellHouse_169 : decode cX12_tellHouse 169 = .ok (.aload_n 0, 1) := by decide +kernel
theorem dX12_tellHouse_170 : decode cX12_tellHouse 170 = .ok (.getfield 248, 3) := by decide +kernel
theorem dX12_tellHouse_173 : decode cX12_tellHouse 173 = .ok (.iaload, 1) := by decide +kernel
theorem dX12_tellHouse_174 : decode cX12_tellHouse 174 = .ok (.aload_n 0, 1) := by decide +kernel
theorem dX12_tellHouse_175 : decode cX12_tellHouse 175 = .ok (.getfield 30, 3) := by decide +kernel
theorem dX12_tellHouse_178 : decode cX12_tellHouse 178 = .ok (.iload_n 2, 1) := by decide +kernel
theorem dX12_tellHouse_179 : decode cX12_tellHouse 179 = .ok (.laload, 1) := by decide +kernel
theorem dX12_tellHouse_180 : decode cX12_tellHouse 180 = .ok (.lastore, 1) := by decide +kernel
theorem dX12_tellHouse_181 : decode cX12_tellHouse 181 = .ok (.aload_n 0, 1) := by decide +kernel
theorem dX12_tellHouse_182 : decode cX12_tellHouse 182 = .ok (.getfield 43, 3) := by decide +kernel
theorem dX12_tellHouse_185 : decode cX12_tellHouse 185 = .ok (.aload_n 0, 1) := by decide +kernel
theorem dX12_tellHouse_186 : decode cX12_tellHouse 186 = .ok (.getfield 248, 3) := by decide +kernel
theorem dX12_tellHouse_189 : decode cX12_tellHouse 189 = .ok (.dup2, 1) := by decide +kernel
theorem dX12_tellHouse_190 : decode cX12_tellHouse 190 = .ok (.iaload, 1) := by decide +kernel
theorem dX12_tellHouse_191 : decode cX12_tellHouse 191 = .ok (.iconst 1, 1) := by decide +kernel
theorem dX12_tellHouse_192 : decode cX12_tellHouse 192 = .ok (.iadd, 1) := by decide +kernel
theorem dX12_tellHouse_193 : decode cX12_tellHouse 193 = .ok (.iastore, 1) := by decide +kernel
theorem dX12_tellHouse_194 : decode cX12_tellHouse 194 = .ok (.return_, 1) := by decide +kernel
theorem dX12_toldInt_0 : decode cX12_toldInt 0 = .ok (.aload_n 0, 1) := by decide +kernel
theorem dX12_toldInt_1 : decode cX12_toldInt 1 = .ok (.invokevirtual 236, 3) := by decide +kernel
theorem dX12_toldInt_4 : decode cX12_toldInt 4 = .ok (.aload_n 0, 1) := by decide +kernel
theorem dX12_toldInt_5 : decode cX12_toldInt 5 = .ok (.iload_n 1, 1) := by decide +kernel
theorem dX12_toldInt_6 : decode cX12_toldInt 6 = .ok (.iload_n 2, 1) := by decide +kernel
theorem dX12_toldInt_7 : decode cX12_toldInt 7 = .ok (.invokevirtual 266, 3) := by decide +kernel
theorem dX12_toldInt_10 : decode cX12_toldInt 10 = .ok (.istore_n 3, 1) := by decide +kernel
theorem dX12_toldInt_11 : decode cX12_toldInt 11 = .ok (.aload_n 0, 1) := by decide +kernel
theorem dX12_toldInt_12 : decode cX12_toldInt 12 = .ok (.iconst 4, 1) := by decide +kernel
theorem dX12_toldInt_13 : decode cX12_toldInt 13 = .ok (.invokevirtual 270, 3) := by decide +kernel
theorem dX12_toldInt_16 : decode cX12_toldInt 16 = .ok (.iload_n 3, 1) := by decide +kernel
theorem dX12_toldInt_17 : decode cX12_toldInt 17 = .ok (.ireturn, 1) := by decide +kernel
theorem dX12_term_0 : decode cX12_term 0 = .ok (.aload_n 0, 1) := by decide +kernel
theorem dX12_term_1 : decode cX12_term 1 = .ok (.getfield 89, 3) := by decide +kernel
theorem dX12_term_4 : decode cX12_term 4 = .ok (.aload_n 0, 1) := by decide +kernel
theorem dX12_term_5 : decode cX12_term 5 = .ok (.getfield 251, 3) := by decide +kernel
theorem dX12_term_8 : decode cX12_term 8 = .ok (.aload_n 0, 1) := by decide +kernel
theorem dX12_term_9 : decode cX12_term 9 = .ok (.getfield 254, 3) := by decide +kernel
theorem dX12_term_12 : decode cX12_term 12 = .ok (.iastore, 1) := by decide +kernel
theorem dX12_term_13 : decode cX12_term 13 = .ok (.aload_n 0, 1) := by decide +kernel
theorem dX12_term_14 : decode cX12_term 14 = .ok (.getfield 215, 3) := by decide +kernel
theorem dX12_term_17 : decode cX12_term 17 = .ok (.ifCond .ne 7, 3) := by decide +kernel
theorem dX12_term_20 : decode cX12_term 20 = .ok (.aload_n 0, 1) := by decide +kernel
theorem dX12_term_21 : decode cX12_term 21 = .ok (.invokevirtual 286, 3) := by decide +kernel
theorem dX12_term_24 : decode cX12_term 24 = .ok (.aload_n 0, 1) := by decide +kernel
theorem dX12_term_25 : decode cX12_term 25 = .ok (.getfield 92, 3) := by decide +kernel
theorem dX12_term_28 : decode cX12_term 28 = .ok (.aload_n 0, 1) := by decide +kernel
theorem dX12_term_29 : decode cX12_term 29 = .ok (.getfield 251, 3) := by decide +kernel
theorem dX12_term_32 : decode cX12_term 32 = .ok (.aload_n 0, 1) := by decide +kernel
theorem dX12_term_33 : decode cX12_term 33 = .ok (.getfield 254, 3) := by decide +kernel
theorem dX12_term_36 : decode cX12_term 36 = .ok (.iastore, 1) := by decide +kernel
theorem dX12_term_37 : decode cX12_term 37 = .ok (.aload_n 0, 1) := by decide +kernel
theorem dX12_term_38 : decode cX12_term 38 = .ok (.dup, 1) := by decide +kernel
theorem dX12_term_39 : decode cX12_term 39 = .ok (.getfield 251, 3) := by decide +kernel
theorem dX12_term_42 : decode cX12_term 42 = .ok (.iconst 1, 1) := by decide +kernel
theorem dX12_term_43 : decode cX12_term 43 = .ok (.iadd, 1) := by decide +kernel
theorem dX12_term_44 : decode cX12_term 44 = .ok (.putfield 251, 3) := by decide +kernel
theorem dX12_term_47 : decode cX12_term 47 = .ok (.return_, 1) := by decide +kernel
theorem dX12_tellLaw_0 : decode cX12_tellLaw 0 = .ok (.aload_n 0, 1) := by decide +kernel
theorem dX12_tellLaw_1 : decode cX12_tellLaw 1 = .ok (.iconst 5, 1) := by decide +kernel
theorem dX12_tellLaw_2 : decode cX12_tellLaw 2 = .ok (.invokevirtual 270, 3) := by decide +kernel
theorem dX12_tellLaw_5 : decode cX12_tellLaw 5 = .ok (.aload_n 0, 1) := by decide +kernel
theorem dX12_tellLaw_6 : decode cX12_tellLaw 6 = .ok (.getfield 251, 3) := by decide +kernel
theorem dX12_tellLaw_9 : decode cX12_tellLaw 9 = .ok (.istore_n 2, 1) := by decide +kernel
theorem dX12_tellLaw_10 : decode cX12_tellLaw 10 = .ok (.iconst 0, 1) := by decide +kernel
theorem dX12_tellLaw_11 : decode cX12_tellLaw 11 = .ok (.istore_n 3, 1) := by decide +kernel
theorem dX12_tellLaw_12 : decode cX12_tellLaw 12 = .ok (.aload_n 0, 1) := by decide +kernel
theorem dX12_tellLaw_13 : decode cX12_tellLaw 13 = .ok (.getfield 215, 3) := by decide +kernel
theorem dX12_tellLaw_16 : decode cX12_tellLaw 16 = .ok (.ifCond .ne 113, 3) := by decide +kernel
theorem dX12_tellLaw_19 : decode cX12_tellLaw 19 = .ok (.aload_n 0, 1) := by decide +kernel
theorem dX12_tellLaw_20 : decode cX12_tellLaw 20 = .ok (.bipush 29, 2) := by decide +kernel
theorem dX12_tellLaw_22 : decode cX12_tellLaw 22 = .ok (.invokevirtual 233, 3) := by decide +kernel
theorem dX12_tellLaw_25 : decode cX12_tellLaw 25 = .ok (.ifCond .eq 104, 3) := by decide +kernel
theorem dX12_tellLaw_28 : decode cX12_tellLaw 28 = .ok (.iload_n 3, 1) := by decide +kernel
theorem dX12_tellLaw_29 : decode cX12_tellLaw 29 = .ok (.iconst 4, 1) := by decide +kernel
theorem dX12_tellLaw_30 : decode cX12_tellLaw 30 = .ok (.if_icmp .ne 8, 3) := by decide +kernel
theorem dX12_tellLaw_33 : decode cX12_tellLaw 33 = .ok (.aload_n 0, 1) := by decide +kernel
theorem dX12_tellLaw_34 : decode cX12_tellLaw 34 = .ok (.iconst 2, 1) := by decide +kernel
theorem dX12_tellLaw_35 : decode cX12_tellLaw 35 = .ok (.invokevirtual 230, 3) := by decide +kernel
theorem dX12_tellLaw_38 : decode cX12_tellLaw 38 = .ok (.aload_n 0, 1) := by decide +kernel
theorem dX12_tellLaw_39 : decode cX12_tellLaw 39 = .ok (.getfield 215, 3) := by decide +kernel
theorem dX12_tellLaw_42 : decode cX12_tellLaw 42 = .ok (.ifCond .le 4, 3) := by decide +kernel
theorem dX12_tellLaw_45 : decode cX12_tellLaw 45 = .ok (.return_, 1) := by decide +kernel
theorem dX12_tellLaw_46 : decode cX12_tellLaw 46 = .ok (.iinc 3 1, 3) := by decide +kernel
theorem dX12_tellLaw_49 : decode cX12_tellLaw 49 = .ok (.aload_n 0, 1) := by decide +kernel
theorem dX12_tellLaw_50 : decode cX12_tellLaw 50 = .ok (.invokevirtual 236, 3) := by decide +kernel
theorem dX12_tellLaw_53 : decode cX12_tellLaw 53 = .ok (.aload_n 0, 1) := by decide +kernel
theorem dX12_tellLaw_54 : decode cX12_tellLaw 54 = .ok (.getfield 79, 3) := by decide +kernel
theorem dX12_tellLaw_57 : decode cX12_tellLaw 57 = .ok (.aload_n 0, 1) := by decide +kernel
theorem dX12_tellLaw_58 : decode cX12_tellLaw 58 = .ok (.getfield 251, 3) := by decide +kernel
theorem dX12_tellLaw_61 : decode cX12_tellLaw 61 = .ok (.iconst 1, 1) := by decide +kernel
theorem dX12_tellLaw_62 : decode cX12_tellLaw 62 = .ok (.bastore, 1) := by decide +kernel
theorem dX12_tellLaw_63 : decode cX12_tellLaw 63 = .ok (.aload_n 0, 1) := by decide +kernel
theorem dX12_tellLaw_64 : decode cX12_tellLaw 64 = .ok (.getfield 83, 3) := by decide +kernel
theorem dX12_tellLaw_67 : decode cX12_tellLaw 67 = .ok (.aload_n 0, 1) := by decide +kernel
theorem dX12_tellLaw_68 : decode cX12_tellLaw 68 = .ok (.getfield 251, 3) := by decide +kernel
theorem dX12_tellLaw_71 : decode cX12_tellLaw 71 = .ok (.aload_n 0, 1) := by decide +kernel
theorem dX12_tellLaw_72 : decode cX12_tellLaw 72 = .ok (.getfield 254, 3) := by decide +kernel
theorem dX12_tellLaw_75 : decode cX12_tellLaw 75 = .ok (.iastore, 1) := by decide +kernel
theorem dX12_tellLaw_76 : decode cX12_tellLaw 76 = .ok (.aload_n 0, 1) := by decide +kernel
theorem dX12_tellLaw_77 : decode cX12_tellLaw 77 = .ok (.invokevirtual 286, 3) := by decide +kernel
theorem dX12_tellLaw_80 : decode cX12_tellLaw 80 = .ok (.aload_n 0, 1) := by decide +kernel
theorem dX12_tellLaw_81 : decode cX12_tellLaw 81 = .ok (.bipush 13, 2) := by decide +kernel
theorem dX12_tellLaw_83 : decode cX12_tellLaw 83 = .ok (.invokevirtual 270, 3) := by decide +kernel
theorem dX12_tellLaw_86 : decode cX12_tellLaw 86 = .ok (.aload_n 0, 1) := by decide +kernel
theorem dX12_tellLaw_87 : decode cX12_tellLaw 87 = .ok (.getfield 86, 3) := by decide +kernel
theorem dX12_tellLaw_90 : decode cX12_tellLaw 90 = .ok (.aload_n 0, 1) := by decide +kernel
theorem dX12_tellLaw_91 : decode cX12_tellLaw 91 = .ok (.getfield 251, 3) := by decide +kernel
theorem dX12_tellLaw_94 : decode cX12_tellLaw 94 = .ok (.aload_n 0, 1) := by decide +kernel
theorem dX12_tellLaw_95 : decode cX12_tellLaw 95 = .ok (.getfield 254, 3) := by decide +kernel
theorem dX12_tellLaw_98 : decode cX12_tellLaw 98 = .ok (.iastore, 1) := by decide +kernel
theorem dX12_tellLaw_99 : decode cX12_tellLaw 99 = .ok (.aload_n 0, 1) := by decide +kernel
theorem dX12_tellLaw_100 : decode cX12_tellLaw 100 = .ok (.getfield 215, 3) := by decide +kernel
theorem dX12_tellLaw_103 : decode cX12_tellLaw 103 = .ok (.ifCond .ne 7, 3) := by decide +kernel
theorem dX12_tellLaw_106 : decode cX12_tellLaw 106 = .ok (.aload_n 0, 1) := by decide +kernel
theorem dX12_tellLaw_107 : decode cX12_tellLaw 107 = .ok (.invokevirtual 286, 3) := by decide +kernel
theorem dX12_tellLaw_110 : decode cX12_tellLaw 110 = .ok (.aload_n 0, 1) := by decide +kernel
theorem dX12_tellLaw_111 : decode cX12_tellLaw 111 = .ok (.bipush 30, 2) := by decide +kernel
theorem dX12_tellLaw_113 : decode cX12_tellLaw 113 = .ok (.invokevirtual 270, 3) := by decide +kernel
theorem dX12_tellLaw_116 : decode cX12_tellLaw 116 = .ok (.aload_n 0, 1) := by decide +kernel
theorem dX12_tellLaw_117 : decode cX12_tellLaw 117 = .ok (.invokevirtual 289, 3) := by decide +kernel
theorem dX12_tellLaw_120 : decode cX12_tellLaw 120 = .ok (.aload_n 0, 1) := by decide +kernel
theorem dX12_tellLaw_121 : decode cX12_tellLaw 121 = .ok (.bipush 31, 2) := by decide +kernel
theorem dX12_tellLaw_123 : decode cX12_tellLaw 123 = .ok (.invokevirtual 270, 3) := by decide +kernel
theorem dX12_tellLaw_126 : decode cX12_tellLaw 126 = .ok (.goto (-114), 3) := by decide +kernel
theorem dX12_tellLaw_129 : decode cX12_tellLaw 129 = .ok (.aload_n 0, 1) := by decide +kernel
theorem dX12_tellLaw_130 : decode cX12_tellLaw 130 = .ok (.getfield 79, 3) := by decide +kernel
theorem dX12_tellLaw_133 : decode cX12_tellLaw 133 = .ok (.aload_n 0, 1) := by decide +kernel
theorem dX12_tellLaw_134 : decode cX12_tellLaw 134 = .ok (.getfield 251, 3) := by decide +kernel
theorem dX12_tellLaw_137 : decode cX12_tellLaw 137 = .ok (.iconst 0, 1) := by decide +kernel
theorem dX12_tellLaw_138 : decode cX12_tellLaw 138 = .ok (.bastore, 1) := by decide +kernel
theorem dX12_tellLaw_139 : decode cX12_tellLaw 139 = .ok (.aload_n 0, 1) := by decide +kernel
theorem dX12_tellLaw_140 : decode cX12_tellLaw 140 = .ok (.invokevirtual 289, 3) := by decide +kernel
theorem dX12_tellLaw_143 : decode cX12_tellLaw 143 = .ok (.aload_n 0, 1) := by decide +kernel
theorem dX12_tellLaw_144 : decode cX12_tellLaw 144 = .ok (.iconst 4, 1) := by decide +kernel
theorem dX12_tellLaw_145 : decode cX12_tellLaw 145 = .ok (.invokevirtual 270, 3) := by decide +kernel
theorem dX12_tellLaw_148 : decode cX12_tellLaw 148 = .ok (.aload_n 0, 1) := by decide +kernel
theorem dX12_tellLaw_149 : decode cX12_tellLaw 149 = .ok (.getfield 215, 3) := by decide +kernel
theorem dX12_tellLaw_152 : decode cX12_tellLaw 152 = .ok (.ifCond .le 4, 3) := by decide +kernel
theorem dX12_tellLaw_155 : decode cX12_tellLaw 155 = .ok (.return_, 1) := by decide +kernel
theorem dX12_tellLaw_156 : decode cX12_tellLaw 156 = .ok (.aload_n 0, 1) := by decide +kernel
theorem dX12_tellLaw_157 : decode cX12_tellLaw 157 = .ok (.getfield 73, 3) := by decide +kernel
theorem dX12_tellLaw_160 : decode cX12_tellLaw 160 = .ok (.iconst 4, 1) := by decide +kernel
theorem dX12_tellLaw_161 : decode cX12_tellLaw 161 = .ok (.aload_n 0, 1) := by decide +kernel
theorem dX12_tellLaw_162 : decode cX12_tellLaw 162 = .ok (.getfield 248, 3) := by decide +kernel
theorem dX12_tellLaw_165 : decode cX12_tellLaw 165 = .ok (.imul, 1) := by decide +kernel
theorem dX12_tellLaw_166 : decode cX12_tellLaw 166 = .ok (.iload_n 1, 1) := by decide +kernel
theorem dX12_tellLaw_167 : decode cX12_tellLaw 167 = .ok (.iadd, 1) := by decide +kernel
theorem dX12_tellLaw_168 : decode cX12_tellLaw 168 = .ok (.iload_n 2, 1) := by decide +kernel
theorem dX12_tellLaw_169 : decode cX12_tellLaw 169 = .ok (.iastore, 1) := by decide +kernel
theorem dX12_tellLaw_170 : decode cX12_tellLaw 170 = .ok (.aload_n 0, 1) := by decide +kernel
theorem dX12_tellLaw_171 : decode cX12_tellLaw 171 = .ok (.getfield 76, 3) := by decide +kernel
theorem dX12_tellLaw_174 : decode cX12_tellLaw 174 = .ok (.iconst 4, 1) := by decide +kernel
theorem dX12_tellLaw_175 : decode cX12_tellLaw 175 = .ok (.aload_n 0, 1) := by decide +kernel
theorem dX12_tellLaw_176 : decode cX12_tellLaw 176 = .ok (.getfield 248, 3) := by decide +kernel
theorem dX12_tellLaw_179 : decode cX12_tellLaw 179 = .ok (.imul, 1) := by decide +kernel
theorem dX12_tellLaw_180 : decode cX12_tellLaw 180 = .ok (.iload_n 1, 1) := by decide +kernel
theorem dX12_tellLaw_181 : decode cX12_tellLaw 181 = .ok (.iadd, 1) := by decide +kernel
theorem dX12_tellLaw_182 : decode cX12_tellLaw 182 = .ok (.aload_n 0, 1) := by decide +kernel
theorem dX12_tellLaw_183 : decode cX12_tellLaw 183 = .ok (.getfield 251, 3) := by decide +kernel
theorem dX12_tellLaw_186 : decode cX12_tellLaw 186 = .ok (.iastore, 1) := by decide +kernel
theorem dX12_tellLaw_187 : decode cX12_tellLaw 187 = .ok (.return_, 1) := by decide +kernel
section WK12
variable {p : Program} {l : Launch} {e : Env} {s : State} {m : MethodId} {args : Array Value} {below : List Frame} {meth : Method} {c : Code} {ω : WW}

set_option maxHeartbeats 4000000 in
set_option maxRecDepth 100000 in
theorem wX12_next_s47 (hW : FWM ω) (C : Cx ω p s m args c cX12_next 7 RX12) (hr : meth.sig.returnType = some .int) (hk : meth.locks = false) {rr : Int32} {μo : Mem} {x2 : Int32} {x3 : Int32} {x4 : Int32} {x5 : Int32} {x6 : Int32} {μ : Mem} {rec : Int32 → Option (Int32 × Mem)} (hrec : ∀ (z6 : Int32) (H : Heap) (locs : List Loc) (ls : Array Slot), Hd ω μ H → FS ω s H locs → lv_has ls 7 [(0, .ref (wB ω + 0)), (2, .int x2), (3, .int x3), (4, .int x4), (5, .int x5), (6, .int z6)] → rec z6 = some (rr, μo) → W p l e (rmd 5) s m args below meth c H locs 0 0 (MQ below (QR ω (some (.int rr)) μo) args s 0 0 (wA ω)) (F0 m 47 ls [])) {K : Int32 → Option (Int32 × Mem)} (hK : ∀ (z6 : Int32) (H : Heap) (locs : List Loc) (ls : Array Slot), Hd ω μ H → FS ω s H locs → lv_has ls 7 [(0, .ref (wB ω + 0)), (2, .int x2), (3, .int x3), (5, .int x5), (6, .int z6)] → K z6 = some (rr, μo) → W p l e (rmd 5) s m args below meth c H locs 0 0 (MQ below (QR ω (some (.int rr)) μo) args s 0 0 (wA ω)) (F0 m 87 ls [])) {H : Heap} {locs : List Loc} {ls : Array Slot} (hH : Hd ω μ H) (hS : FS ω s H locs) (hl : lv_has ls 7 [(0, .ref (wB ω + 0)), (2, .int x2), (3, .int x3), (4, .int x4), (5, .int x5), (6, .int x6)]) (h : fX12_next_s47 rec K x3 x4 x6 μ = some (rr, μo)) : W p l e (rmd 5) s m args below meth c H locs 0 0 (MQ below (QR ω (some (.int rr)) μo) args s 0 0 (wA ω)) (F0 m 47 ls []) := by
  have hx := C.1
  have hb := C.2.1
  unfold fX12_next_s47 at h
  refine lv_iload_n hx hb dX12_next_47 rfl (lv_at hl 2 rfl) ?_
  refine lv_iload hx hb dX12_next_48 (lv_at hl 5 rfl) ?_
  refine lv_ishr hx hb dX12_next_50 ?_
  refine lv_iconst (v := 1) hx hb dX12_next_51 (by decide) ?_
  refine lv_iand hx hb dX12_next_52 ?_
  refine lv_iconst (v := 1) hx hb dX12_next_53 (by decide) ?_
  refine lv_icmp_eq (tgt := 81) hx hb dX12_next_54 (by decide) (fun hc => ?_) (fun hc => ?_)
  · have h := ite_t hc h
    refine lv_iinc (v := x6 + 1) (lv' := [(6, .int (x6 + 1)), (0, .ref (wB ω + 0)), (2, .int x2), (3, .int x3), (4, .int x4), (5, .int x5)]) hx hb dX12_next_81 hl (k := 5) rfl rfl (by decide) rfl (fun ls hl => ?_)
    refine lv_goto (tgt := 47) hx hb dX12_next_84 (by decide) ?_
    exact hrec _ H locs ls hH hS (lv_sub hl [1, 2, 3, 4, 5, 0] rfl) h
  · have h := ite_f hc h
    refine lv_aload_n hx hb dX12_next_57 rfl (lv_at hl 0 rfl) ?_
    refine lv_iload_n hx hb dX12_next_58 rfl (lv_at hl 2 rfl) ?_
    refine lv_iload hx hb dX12_next_59 (lv_at hl 3 rfl) ?_
    refine lv_iload hx hb dX12_next_61 (lv_at hl 5 rfl) ?_
    obtain ⟨r12, e11, h⟩ := b1_e h
    refine cVi (as := [.int x3, .int x4, .int x6]) (rest := []) (c_X12_restWith hW e11) C hl.1 hH hS rfl (jM_0 hW) rfl wd_86 wd_1731 mw_X12_restWith wd_1729 rfl (rm_ok (by decide) (by decide)) (Nat.le_of_ble_eq_true rfl) ⟨Nat.zero_le _, Nat.zero_le _⟩ (by decide) dX12_next_63 (fun H locs hH hS => ?_)
    refine lv_aload_n hx hb dX12_next_66 rfl (lv_at hl 0 rfl) ?_
    refine g_1245 (i := 39) C hH (jM_0 hW) rfl dX12_next_67 ?_
    refine lv_bipush (v := 6) hx hb dX12_next_70 (by decide) ?_
    refine lv_iload_n hx hb dX12_next_72 rfl (lv_at hl 2 rfl) ?_
    refine lv_imul hx hb dX12_next_73 ?_
    refine lv_iload hx hb dX12_next_74 (lv_at hl 3 rfl) ?_
    refine lv_iadd hx hb dX12_next_76 ?_
    obtain ⟨b13, h⟩ := gd_e h
    refine h_iald C hH (jM_39 hW).1 (jM_39 hW).2.1 b13 dX12_next_77 ?_
    refine lv_icmp_eq (tgt := 87) hx hb dX12_next_78 (by decide) (fun hc => ?_) (fun hc => ?_)
    · have h := ite_t hc h
      exact hK _ H locs ls hH hS (lv_sub hl [0, 1, 2, 4, 5] rfl) h
    · have h := ite_f hc h
      refine lv_iinc (v := x6 + 1) (lv' := [(6, .int (x6 + 1)), (0, .ref (wB ω + 0)), (2, .int x2), (3, .int x3), (4, .int x4), (5, .int x5)]) hx hb dX12_next_81 hl (k := 5) rfl rfl (by decide) rfl (fun ls hl => ?_)
      refine lv_goto (tgt := 47) hx hb dX12_next_84 (by decide) ?_
      exact hrec _ H locs ls hH hS (lv_sub hl [1, 2, 3, 4, 5, 0] rfl) h
theorem wX12_next_l47 (hW : FWM ω) (C : Cx ω p s m args c cX12_next 7 RX12) (hr : meth.sig.returnType = some .int) (hk : meth.locks = false) {rr : Int32} {μo : Mem} {x3 : Int32} {x4 : Int32} {x2 : Int32} {x5 : Int32} {μ : Mem} {K : Int32 → Option (Int32 × Mem)} (hK : ∀ (z6 : Int32) (H : Heap) (locs : List Loc) (ls : Array Slot), Hd ω μ H → FS ω s H locs → lv_has ls 7 [(0, .ref (wB ω + 0)), (2, .int x2), (3, .int x3), (5, .int x5), (6, .int z6)] → K z6 = some (rr, μo) → W p l e (rmd 5) s m args below meth c H locs 0 0 (MQ below (QR ω (some (.int rr)) μo) args s 0 0 (wA ω)) (F0 m 87 ls [])) : ∀ (n : Nat) (x6 : Int32) (H : Heap) (locs : List Loc) (ls : Array Slot), Hd ω μ H → FS ω s H locs → lv_has ls 7 [(0, .ref (wB ω + 0)), (2, .int x2), (3, .int x3), (4, .int x4), (5, .int x5), (6, .int x6)] → fX12_next_l47 K x3 x4 μ n x6 = some (rr, μo) → W p l e (rmd 5) s m args below meth c H locs 0 0 (MQ below (QR ω (some (.int rr)) μo) args s 0 0 (wA ω)) (F0 m 47 ls []) := by
  intro n
  induction n with
  | zero => intro x6 H locs ls hH hS hl h; cases h
  | succ n ih => intro x6 H locs ls hH hS hl h; exact wX12_next_s47 hW C hr hk ih hK hH hS hl h
set_option maxHeartbeats 4000000 in
set_option maxRecDepth 100000 in
theorem wX12_next_s38 (hW : FWM ω) (C : Cx ω p s m args c cX12_next 7 RX12) (hr : meth.sig.returnType = some .int) (hk : meth.locks = false) {rr : Int32} {μo : Mem} {x2 : Int32} {x3 : Int32} {x4 : Int32} {x5 : Int32} {μ : Mem} {rec : Int32 → Int32 → Int32 → Option (Int32 × Mem)} (hrec : ∀ (z3 : Int32) (z4 : Int32) (z5 : Int32) (H : Heap) (locs : List Loc) (ls : Array Slot), Hd ω μ H → FS ω s H locs → lv_has ls 7 [(0, .ref (wB ω + 0)), (2, .int x2), (3, .int z3), (4, .int z4), (5, .int z5)] → rec z3 z4 z5 = some (rr, μo) → W p l e (rmd 5) s m args below meth c H locs 0 0 (MQ below (QR ω (some (.int rr)) μo) args s 0 0 (wA ω)) (F0 m 38 ls [])) {H : Heap} {locs : List Loc} {ls : Array Slot} (hH : Hd ω μ H) (hS : FS ω s H locs) (hl : lv_has ls 7 [(0, .ref (wB ω + 0)), (2, .int x2), (3, .int x3), (4, .int x4), (5, .int x5)]) (h : fX12_next_s38 rec x2 x3 x4 x5 μ = some (rr, μo)) : W p l e (rmd 5) s m args below meth c H locs 0 0 (MQ below (QR ω (some (.int rr)) μo) args s 0 0 (wA ω)) (F0 m 38 ls []) := by
  have hx := C.1
  have hb := C.2.1
  unfold fX12_next_s38 at h
  refine lv_iload hx hb dX12_next_38 (lv_at hl 4 rfl) ?_
  refine lv_iload_n hx hb dX12_next_40 rfl (lv_at hl 1 rfl) ?_
  refine lv_icmp_ge (tgt := 104) hx hb dX12_next_41 (by decide) (fun hc => ?_) (fun hc => ?_)
  · have h := ite_t hc h
    refine lv_iload hx hb dX12_next_104 (lv_at hl 3 rfl) ?_
    exact h_iret C hr hk hH hS rfl (by cases h; rfl) dX12_next_106
  · have h := ite_f hc h
    refine lv_iconst (v := 0) hx hb dX12_next_44 (by decide) ?_
    refine lv_istore (lv' := [(6, .int 0), (0, .ref (wB ω + 0)), (2, .int x2), (3, .int x3), (4, .int x4), (5, .int x5)]) hx hb dX12_next_45 hl (by decide) rfl (fun ls hl => ?_)
    refine wX12_next_l47 hW C hr hk (fun y14 H locs ls hH hS hl h => ?_) FU _ H locs ls hH hS (lv_sub hl [1, 2, 3, 4, 5, 0] rfl) h
    refine lv_iload_n hx hb dX12_next_87 rfl (lv_at hl 2 rfl) ?_
    refine lv_iconst (v := 1) hx hb dX12_next_88 (by decide) ?_
    refine lv_iload hx hb dX12_next_89 (lv_at hl 4 rfl) ?_
    refine lv_ishl hx hb dX12_next_91 ?_
    refine lv_ior hx hb dX12_next_92 ?_
    obtain ⟨y15, e16, h⟩ := bd_e h
    refine h_topi e16 ?_
    refine lv_istore_n (lv' := [(3, .int y15), (0, .ref (wB ω + 0)), (2, .int x2), (5, .int x5), (6, .int y14)]) hx hb dX12_next_93 rfl hl (by decide) rfl (fun ls hl => ?_)
    refine lv_iload hx hb dX12_next_94 (lv_at hl 4 rfl) ?_
    refine lv_istore (lv' := [(4, .int y14), (3, .int y15), (0, .ref (wB ω + 0)), (2, .int x2), (5, .int x5), (6, .int y14)]) hx hb dX12_next_96 hl (by decide) rfl (fun ls hl => ?_)
    refine lv_iinc (v := x5 + 1) (lv' := [(5, .int (x5 + 1)), (4, .int y14), (3, .int y15), (0, .ref (wB ω + 0)), (2, .int x2), (6, .int y14)]) hx hb dX12_next_98 hl (k := 4) rfl rfl (by decide) rfl (fun ls hl => ?_)
    refine lv_goto (tgt := 38) hx hb dX12_next_101 (by decide) ?_
    exact hrec _ _ _ H locs ls hH hS (lv_sub hl [3, 4, 2, 1, 0] rfl) h
theorem wX12_next_l38 (hW : FWM ω) (C : Cx ω p s m args c cX12_next 7 RX12) (hr : meth.sig.returnType = some .int) (hk : meth.locks = false) {rr : Int32} {μo : Mem} {x2 : Int32} {μ : Mem} : ∀ (n : Nat) (x3 : Int32) (x4 : Int32) (x5 : Int32) (H : Heap) (locs : List Loc) (ls : Array Slot), Hd ω μ H → FS ω s H locs → lv_has ls 7 [(0, .ref (wB ω + 0)), (2, .int x2), (3, .int x3), (4, .int x4), (5, .int x5)] → fX12_next_l38 x2 μ n x3 x4 x5 = some (rr, μo) → W p l e (rmd 5) s m args below meth c H locs 0 0 (MQ below (QR ω (some (.int rr)) μo) args s 0 0 (wA ω)) (F0 m 38 ls []) := by
  intro n
  induction n with
  | zero => intro x3 x4 x5 H locs ls hH hS hl h; cases h
  | succ n ih => intro x3 x4 x5 H locs ls hH hS hl h; exact wX12_next_s38 hW C hr hk ih hH hS hl h
set_option maxHeartbeats 4000000 in
set_option maxRecDepth 100000 in
theorem wX12_next_e (hW : FWM ω) (C : Cx ω p s m args c cX12_next 7 RX12) (hr : meth.sig.returnType = some .int) (hk : meth.locks = false) {rr : Int32} {μo : Mem} {x1 : Int32} {x2 : Int32} {μ : Mem} {H : Heap} {locs : List Loc} {ls : Array Slot} (hH : Hd ω μ H) (hS : FS ω s H locs) (hl : lv_has ls 7 [(0, .ref (wB ω + 0)), (1, .int x1), (2, .int x2)]) (h : fX12_next x1 x2 μ = some (rr, μo)) : W p l e (rmd 5) s m args below meth c H locs 0 0 (MQ below (QR ω (some (.int rr)) μo) args s 0 0 (wA ω)) (F0 m 0 ls []) := by
  have hx := C.1
  have hb := C.2.1
  unfold fX12_next at h
  refine lv_aload_n hx hb dX12_next_0 rfl (lv_at hl 0 rfl) ?_
  refine lv_iload_n hx hb dX12_next_1 rfl (lv_at hl 1 rfl) ?_
  obtain ⟨r2, e1, h⟩ := b1_e h
  refine cVi (as := [.int x1]) (rest := []) (c_X12_isHouse hW e1) C hl.1 hH hS rfl (jM_0 hW) rfl wd_53 wd_1503 mw_X12_isHouse wd_1501 rfl (rm_ok (by decide) (by decide)) (Nat.le_of_ble_eq_true rfl) ⟨Nat.zero_le _, Nat.zero_le _⟩ (by decide) dX12_next_2 (fun H locs hH hS => ?_)
  refine lv_if_eq (tgt := 22) hx hb dX12_next_5 (by decide) (fun hc => ?_) (fun hc => ?_)
  · have h := ite_t hc h
    refine lv_iconst (v := (-1)) hx hb dX12_next_22 (by decide) ?_
    exact h_iret C hr hk hH hS rfl (by cases h; rfl) dX12_next_23
  · have h := ite_f hc h
    refine lv_iload_n hx hb dX12_next_8 rfl (lv_at hl 2 rfl) ?_
    refine lv_iconst (v := 0) hx hb dX12_next_9 (by decide) ?_
    refine lv_aload_n hx hb dX12_next_10 rfl (lv_at hl 0 rfl) ?_
    obtain ⟨r4, e3, h⟩ := b1_e h
    refine cVi (as := []) (rest := [.int 0, .int x2]) (c_X12_many hW e3) C hl.1 hH hS rfl (jM_0 hW) rfl wd_31 wd_1182 mw_X12_many wd_1180 rfl (rm_ok (by decide) (by decide)) (Nat.le_of_ble_eq_true rfl) ⟨Nat.zero_le _, Nat.zero_le _⟩ (by decide) dX12_next_11 (fun H locs hH hS => ?_)
    refine lv_iconst (v := 1) hx hb dX12_next_14 (by decide) ?_
    refine lv_isub hx hb dX12_next_15 ?_
    obtain ⟨r6, e5, h⟩ := b1_e h
    refine cSi (as := [.int x2, .int 0, .int (r4 - 1)]) (rest := []) (c_X12_in e5) C hl.1 hH hS rfl wd_1506 mw_X12_in wd_1505 rfl (rm_ok (by decide) (by decide)) (Nat.le_of_ble_eq_true rfl) ⟨Nat.zero_le _, Nat.zero_le _⟩ dX12_next_16 (fun H locs hH hS => ?_)
    refine lv_if_ne (tgt := 24) hx hb dX12_next_19 (by decide) (fun hc => ?_) (fun hc => ?_)
    · have h := ite_f hc h
      refine lv_aload_n hx hb dX12_next_24 rfl (lv_at hl 0 rfl) ?_
      obtain ⟨μ8, e7, h⟩ := b1_e h
      refine cVv (as := []) (rest := []) (c_X12_fillsRest hW e7) C hl.1 hH hS rfl (jM_0 hW) rfl wd_85 wd_1727 mw_X12_fillsRest wd_1725 rfl (rm_ok (by decide) (by decide)) (Nat.le_of_ble_eq_true rfl) ⟨Nat.zero_le _, Nat.zero_le _⟩ (by decide) dX12_next_25 (fun H locs hH hS => ?_)
      refine lv_iconst (v := 1) hx hb dX12_next_28 (by decide) ?_
      refine lv_iload_n hx hb dX12_next_29 rfl (lv_at hl 1 rfl) ?_
      refine lv_ishl hx hb dX12_next_30 ?_
      obtain ⟨y9, e10, h⟩ := bd_e h
      refine h_topi e10 ?_
      refine lv_istore_n (lv' := [(3, .int y9), (0, .ref (wB ω + 0)), (1, .int x1), (2, .int x2)]) hx hb dX12_next_31 rfl hl (by decide) rfl (fun ls hl => ?_)
      refine lv_iload_n hx hb dX12_next_32 rfl (lv_at hl 2 rfl) ?_
      refine lv_istore (lv' := [(4, .int x1), (3, .int y9), (0, .ref (wB ω + 0)), (1, .int x1), (2, .int x2)]) hx hb dX12_next_33 hl (by decide) rfl (fun ls hl => ?_)
      refine lv_iconst (v := 0) hx hb dX12_next_35 (by decide) ?_
      refine lv_istore (lv' := [(5, .int 0), (4, .int x1), (3, .int y9), (0, .ref (wB ω + 0)), (1, .int x1), (2, .int x2)]) hx hb dX12_next_36 hl (by decide) rfl (fun ls hl => ?_)
      exact wX12_next_l38 hW C hr hk FU _ _ _ H locs ls hH hS (lv_sub hl [3, 5, 2, 1, 0] rfl) h
    · have h := ite_t hc h
      refine lv_iconst (v := (-1)) hx hb dX12_next_22 (by decide) ?_
      exact h_iret C hr hk hH hS rfl (by cases h; rfl) dX12_next_23
theorem c_X12_next {l : Launch} {ω : WW} {x1 : Int32} {x2 : Int32} (hW : FWM ω) {μ : Mem} {rr : Int32} {μo : Mem} (h : fX12_next x1 x2 μ = some (rr, μo)) : Con l yX12_next cX12_next 7 (some .int) 5 ω [.ref (wB ω + 0), .int x1, .int x2] μ (some (.int rr)) μo :=
  con_of (by decide) (Nat.le_of_ble_eq_true rfl) (fun p e s m args below meth c ls C hr hk hl hH hS => wX12_next_e hW C hr hk hH hS (lv_sub hl [0, 1, 2] rfl) h)
set_option maxHeartbeats 4000000 in
set_option maxRecDepth 100000 in
theorem wX12_pairedOf_s18 (hW : FWM ω) (C : Cx ω p s m args c cX12_pairedOf 5 RX12) (hr : meth.sig.returnType = some .int) (hk : meth.locks = false) {rr : Int32} {μ : Mem} {x1 : Int32} {x2 : Int32} {x3 : Int32} {x4 : Int32} {rec : Int32 → Option Int32} (hrec : ∀ (z4 : Int32) (H : Heap) (locs : List Loc) (ls : Array Slot), Hd ω μ H → FS ω s H locs → lv_has ls 5 [(0, .ref (wB ω + 0)), (1, .int x1), (2, .int x2), (3, .int x3), (4, .int z4)] → rec z4 = some rr → W p l e (rmd 4) s m args below meth c H locs 0 0 (MQ below (QR ω (some (.int rr)) μ) args s 0 0 (wA ω)) (F0 m 18 ls [])) {H : Heap} {locs : List Loc} {ls : Array Slot} (hH : Hd ω μ H) (hS : FS ω s H locs) (hl : lv_has ls 5 [(0, .ref (wB ω + 0)), (1, .int x1), (2, .int x2), (3, .int x3), (4, .int x4)]) (h : fX12_pairedOf_s18 rec x1 x2 x3 x4 μ = some rr) : W p l e (rmd 4) s m args below meth c H locs 0 0 (MQ below (QR ω (some (.int rr)) μ) args s 0 0 (wA ω)) (F0 m 18 ls []) := by
  have hx := C.1
  have hb := C.2.1
  unfold fX12_pairedOf_s18 at h
  refine lv_iload hx hb dX12_pairedOf_18 (lv_at hl 4 rfl) ?_
  refine lv_aload_n hx hb dX12_pairedOf_20 rfl (lv_at hl 0 rfl) ?_
  obtain ⟨r8, e7, h⟩ := b1_e h
  refine cVi (as := []) (rest := [.int x4]) (c_X12_many hW e7) C hl.1 hH hS rfl (jM_0 hW) rfl wd_31 wd_1182 mw_X12_many wd_1180 rfl (rm_ok (by decide) (by decide)) (Nat.le_of_ble_eq_true rfl) ⟨Nat.zero_le _, Nat.zero_le _⟩ (by decide) dX12_pairedOf_21 (fun H locs hH hS => ?_)
  refine lv_icmp_ge (tgt := 63) hx hb dX12_pairedOf_24 (by decide) (fun hc => ?_) (fun hc => ?_)
  · have h := ite_t hc h
    refine lv_bipush (v := (-2)) hx hb dX12_pairedOf_63 (by decide) ?_
    exact h_iret C hr hk hH hS rfl (by cases h; rfl) dX12_pairedOf_65
  · have h := ite_f hc h
    refine lv_iload_n hx hb dX12_pairedOf_27 rfl (lv_at hl 3 rfl) ?_
    refine lv_iload hx hb dX12_pairedOf_28 (lv_at hl 4 rfl) ?_
    refine lv_ishr hx hb dX12_pairedOf_30 ?_
    refine lv_iconst (v := 1) hx hb dX12_pairedOf_31 (by decide) ?_
    refine lv_iand hx hb dX12_pairedOf_32 ?_
    refine lv_iconst (v := 1) hx hb dX12_pairedOf_33 (by decide) ?_
    refine lv_icmp_ne (tgt := 57) hx hb dX12_pairedOf_34 (by decide) (fun hc => ?_) (fun hc => ?_)
    · have h := ite_f hc h
      refine lv_iinc (v := x4 + 1) (lv' := [(4, .int (x4 + 1)), (0, .ref (wB ω + 0)), (1, .int x1), (2, .int x2), (3, .int x3)]) hx hb dX12_pairedOf_57 hl (k := 4) rfl rfl (by decide) rfl (fun ls hl => ?_)
      refine lv_goto (tgt := 18) hx hb dX12_pairedOf_60 (by decide) ?_
      exact hrec _ H locs ls hH hS (lv_sub hl [1, 2, 3, 4, 0] rfl) h
    · have h := ite_t hc h
      refine lv_aload_n hx hb dX12_pairedOf_37 rfl (lv_at hl 0 rfl) ?_
      refine lv_iload_n hx hb dX12_pairedOf_38 rfl (lv_at hl 2 rfl) ?_
      refine lv_iload hx hb dX12_pairedOf_39 (lv_at hl 4 rfl) ?_
      refine lv_iload_n hx hb dX12_pairedOf_41 rfl (lv_at hl 3 rfl) ?_
      obtain ⟨r10, e9, h⟩ := b1_e h
      refine cVi (as := [.int x2, .int x4, .int x3]) (rest := []) (c_X12_pairedWith hW e9) C hl.1 hH hS rfl (jM_0 hW) rfl wd_91 wd_1782 mw_X12_pairedWith wd_1780 rfl (rm_ok (by decide) (by decide)) (Nat.le_of_ble_eq_true rfl) ⟨Nat.zero_le _, Nat.zero_le _⟩ (by decide) dX12_pairedOf_42 (fun H locs hH hS => ?_)
      refine lv_aload_n hx hb dX12_pairedOf_45 rfl (lv_at hl 0 rfl) ?_
      refine g_1249 (i := 43) C hH (jM_0 hW) rfl dX12_pairedOf_46 ?_
      refine lv_iload_n hx hb dX12_pairedOf_49 rfl (lv_at hl 1 rfl) ?_
      obtain ⟨b11, h⟩ := gd_e h
      refine h_iald C hH (jM_43 hW).1 (jM_43 hW).2.1 b11 dX12_pairedOf_50 ?_
      refine lv_icmp_ne (tgt := 57) hx hb dX12_pairedOf_51 (by decide) (fun hc => ?_) (fun hc => ?_)
      · have h := ite_f hc h
        refine lv_iinc (v := x4 + 1) (lv' := [(4, .int (x4 + 1)), (0, .ref (wB ω + 0)), (1, .int x1), (2, .int x2), (3, .int x3)]) hx hb dX12_pairedOf_57 hl (k := 4) rfl rfl (by decide) rfl (fun ls hl => ?_)
        refine lv_goto (tgt := 18) hx hb dX12_pairedOf_60 (by decide) ?_
        exact hrec _ H locs ls hH hS (lv_sub hl [1, 2, 3, 4, 0] rfl) h
      · have h := ite_t hc h
        refine lv_iload hx hb dX12_pairedOf_54 (lv_at hl 4 rfl) ?_
        exact h_iret C hr hk hH hS rfl (by cases h; rfl) dX12_pairedOf_56
theorem wX12_pairedOf_l18 (hW : FWM ω) (C : Cx ω p s m args c cX12_pairedOf 5 RX12) (hr : meth.sig.returnType = some .int) (hk : meth.locks = false) {rr : Int32} {μ : Mem} {x1 : Int32} {x2 : Int32} {x3 : Int32} : ∀ (n : Nat) (x4 : Int32) (H : Heap) (locs : List Loc) (ls : Array Slot), Hd ω μ H → FS ω s H locs → lv_has ls 5 [(0, .ref (wB ω + 0)), (1, .int x1), (2, .int x2), (3, .int x3), (4, .int x4)] → fX12_pairedOf_l18 x1 x2 x3 μ n x4 = some rr → W p l e (rmd 4) s m args below meth c H locs 0 0 (MQ below (QR ω (some (.int rr)) μ) args s 0 0 (wA ω)) (F0 m 18 ls []) := by
  intro n
  induction n with
  | zero => intro x4 H locs ls hH hS hl h; cases h
  | succ n ih => intro x4 H locs ls hH hS hl h; exact wX12_pairedOf_s18 hW C hr hk ih hH hS hl h
set_option maxHeartbeats 4000000 in
set_option maxRecDepth 100000 in
theorem wX12_pairedOf_e (hW : FWM ω) (C : Cx ω p s m args c cX12_pairedOf 5 RX12) (hr : meth.sig.returnType = some .int) (hk : meth.locks = false) {rr : Int32} {μ : Mem} {x1 : Int32} {H : Heap} {locs : List Loc} {ls : Array Slot} (hH : Hd ω μ H) (hS : FS ω s H locs) (hl : lv_has ls 5 [(0, .ref (wB ω + 0)), (1, .int x1)]) (h : fX12_pairedOf x1 μ = some rr) : W p l e (rmd 4) s m args below meth c H locs 0 0 (MQ below (QR ω (some (.int rr)) μ) args s 0 0 (wA ω)) (F0 m 0 ls []) := by
  have hx := C.1
  have hb := C.2.1
  unfold fX12_pairedOf at h
  refine lv_iload_n hx hb dX12_pairedOf_0 rfl (lv_at hl 1 rfl) ?_
  obtain ⟨r2, e1, h⟩ := b1_e h
  refine cSi (as := [.int x1]) (rest := []) (c_X12_lowestOf e1) C hl.1 hH hS rfl wd_1778 mw_X12_lowestOf wd_1777 rfl (rm_ok (by decide) (by decide)) (Nat.le_of_ble_eq_true rfl) ⟨Nat.zero_le _, Nat.zero_le _⟩ dX12_pairedOf_1 (fun H locs hH hS => ?_)
  refine lv_istore_n (lv' := [(2, .int r2), (0, .ref (wB ω + 0)), (1, .int x1)]) hx hb dX12_pairedOf_4 rfl hl (by decide) rfl (fun ls hl => ?_)
  refine lv_iload_n hx hb dX12_pairedOf_5 rfl (lv_at hl 2 rfl) ?_
  refine lv_iconst (v := 1) hx hb dX12_pairedOf_6 (by decide) ?_
  refine lv_iload_n hx hb dX12_pairedOf_7 rfl (lv_at hl 0 rfl) ?_
  refine lv_ishl hx hb dX12_pairedOf_8 ?_
  refine lv_iconst (v := (-1)) hx hb dX12_pairedOf_9 (by decide) ?_
  refine lv_ixor hx hb dX12_pairedOf_10 ?_
  refine lv_iand hx hb dX12_pairedOf_11 ?_
  obtain ⟨y3, e4, h⟩ := bd_e h
  refine h_topi e4 ?_
  refine lv_istore_n (lv' := [(3, .int y3), (2, .int r2), (0, .ref (wB ω + 0)), (1, .int x1)]) hx hb dX12_pairedOf_12 rfl hl (by decide) rfl (fun ls hl => ?_)
  refine lv_iload_n hx hb dX12_pairedOf_13 rfl (lv_at hl 1 rfl) ?_
  refine lv_iconst (v := 1) hx hb dX12_pairedOf_14 (by decide) ?_
  refine lv_iadd hx hb dX12_pairedOf_15 ?_
  obtain ⟨y5, e6, h⟩ := bd_e h
  refine h_topi e6 ?_
  refine lv_istore (lv' := [(4, .int y5), (3, .int y3), (2, .int r2), (0, .ref (wB ω + 0)), (1, .int x1)]) hx hb dX12_pairedOf_16 hl (by decide) rfl (fun ls hl => ?_)
  exact wX12_pairedOf_l18 hW C hr hk FU _ H locs ls hH hS (lv_sub hl [3, 4, 2, 1, 0] rfl) h
theorem c_X12_pairedOf {l : Launch} {ω : WW} {x1 : Int32} (hW : FWM ω) {μ : Mem} {rr : Int32} (h : fX12_pairedOf x1 μ = some rr) : Con l yX12_pairedOf cX12_pairedOf 5 (some .int) 4 ω [.ref (wB ω + 0), .int x1] μ (some (.int rr)) μ :=
  con_of (by decide) (Nat.le_of_ble_eq_true rfl) (fun p e s m args below meth c ls C hr hk hl hH hS => wX12_pairedOf_e hW C hr hk hH hS (lv_sub hl [0, 1] rfl) h)
set_option maxHeartbeats 4000000 in
set_option maxRecDepth 100000 in
theorem wX12_paired_s51 (hW : FWM ω) (C : Cx ω p s m args c cX12_paired 5 RX12) (hr : meth.sig.returnType = some .int) (hk : meth.locks = false) {rr : Int32} {μo : Mem} {x1 : Int32} {x2 : Int32} {μ : Mem} {rec : Int32 → Option (Int32 × Mem)} (hrec : ∀ (z2 : Int32) (H : Heap) (locs : List Loc) (ls : Array Slot), Hd ω μ H → FS ω s H locs → lv_has ls 5 [(0, .ref (wB ω + 0)), (1, .int x1), (2, .int z2)] → rec z2 = some (rr, μo) → W p l e (rmd 5) s m args below meth c H locs 0 0 (MQ below (QR ω (some (.int rr)) μo) args s 0 0 (wA ω)) (F0 m 51 ls [])) {H : Heap} {locs : List Loc} {ls : Array Slot} (hH : Hd ω μ H) (hS : FS ω s H locs) (hl : lv_has ls 5 [(0, .ref (wB ω + 0)), (1, .int x1), (2, .int x2)]) (h : fX12_paired_s51 rec x1 x2 μ = some (rr, μo)) : W p l e (rmd 5) s m args below meth c H locs 0 0 (MQ below (QR ω (some (.int rr)) μo) args s 0 0 (wA ω)) (F0 m 51 ls []) := by
  have hx := C.1
  have hb := C.2.1
  unfold fX12_paired_s51 at h
  refine lv_iload_n hx hb dX12_paired_51 rfl (lv_at hl 2 rfl) ?_
  obtain ⟨r8, e7, h⟩ := b1_e h
  refine cSi (as := [.int x2]) (rest := []) (c_X12_lowestOf e7) C hl.1 hH hS rfl wd_1778 mw_X12_lowestOf wd_1777 rfl (rm_ok (by decide) (by decide)) (Nat.le_of_ble_eq_true rfl) ⟨Nat.zero_le _, Nat.zero_le _⟩ dX12_paired_52 (fun H locs hH hS => ?_)
  refine lv_istore_n (lv' := [(3, .int r8), (0, .ref (wB ω + 0)), (1, .int x1), (2, .int x2)]) hx hb dX12_paired_55 rfl hl (by decide) rfl (fun ls hl => ?_)
  refine lv_aload_n hx hb dX12_paired_56 rfl (lv_at hl 1 rfl) ?_
  refine lv_iload_n hx hb dX12_paired_57 rfl (lv_at hl 3 rfl) ?_
  obtain ⟨r10, e9, h⟩ := b1_e h
  refine cVi (as := [.int x2]) (rest := []) (c_X12_pairedOf hW e9) C hl.1 hH hS rfl (jM_0 hW) rfl wd_92 wd_1786 mw_X12_pairedOf wd_1784 rfl (rm_ok (by decide) (by decide)) (Nat.le_of_ble_eq_true rfl) ⟨Nat.zero_le _, Nat.zero_le _⟩ (by decide) dX12_paired_58 (fun H locs hH hS => ?_)
  refine lv_istore (lv' := [(4, .int r10), (3, .int r8), (0, .ref (wB ω + 0)), (1, .int x1), (2, .int x2)]) hx hb dX12_paired_61 hl (by decide) rfl (fun ls hl => ?_)
  refine lv_iload_n hx hb dX12_paired_63 rfl (lv_at hl 1 rfl) ?_
  refine lv_iload_n hx hb dX12_paired_64 rfl (lv_at hl 3 rfl) ?_
  refine lv_icmp_ne (tgt := 71) hx hb dX12_paired_65 (by decide) (fun hc => ?_) (fun hc => ?_)
  · have h := ite_f hc h
    refine lv_iload hx hb dX12_paired_71 (lv_at hl 0 rfl) ?_
    refine lv_iload_n hx hb dX12_paired_73 rfl (lv_at hl 3 rfl) ?_
    refine lv_icmp_ne (tgt := 79) hx hb dX12_paired_74 (by decide) (fun hc => ?_) (fun hc => ?_)
    · have h := ite_f hc h
      refine lv_iload_n hx hb dX12_paired_79 rfl (lv_at hl 4 rfl) ?_
      refine lv_iconst (v := 1) hx hb dX12_paired_80 (by decide) ?_
      refine lv_iload_n hx hb dX12_paired_81 rfl (lv_at hl 1 rfl) ?_
      refine lv_ishl hx hb dX12_paired_82 ?_
      refine lv_iconst (v := (-1)) hx hb dX12_paired_83 (by decide) ?_
      refine lv_ixor hx hb dX12_paired_84 ?_
      refine lv_iand hx hb dX12_paired_85 ?_
      obtain ⟨y11, e12, h⟩ := bd_e h
      refine h_topi e12 ?_
      refine lv_istore_n (lv' := [(2, .int y11), (4, .int r10), (3, .int r8), (0, .ref (wB ω + 0)), (1, .int x1)]) hx hb dX12_paired_86 rfl hl (by decide) rfl (fun ls hl => ?_)
      refine lv_iload hx hb dX12_paired_87 (lv_at hl 1 rfl) ?_
      refine lv_if_lt (tgt := 101) hx hb dX12_paired_89 (by decide) (fun hc => ?_) (fun hc => ?_)
      · have h := ite_t hc h
        refine lv_goto (tgt := 51) hx hb dX12_paired_101 (by decide) ?_
        exact hrec _ H locs ls hH hS (lv_sub hl [3, 4, 0] rfl) h
      · have h := ite_f hc h
        refine lv_iload_n hx hb dX12_paired_92 rfl (lv_at hl 0 rfl) ?_
        refine lv_iconst (v := 1) hx hb dX12_paired_93 (by decide) ?_
        refine lv_iload hx hb dX12_paired_94 (lv_at hl 1 rfl) ?_
        refine lv_ishl hx hb dX12_paired_96 ?_
        refine lv_iconst (v := (-1)) hx hb dX12_paired_97 (by decide) ?_
        refine lv_ixor hx hb dX12_paired_98 ?_
        refine lv_iand hx hb dX12_paired_99 ?_
        obtain ⟨y13, e14, h⟩ := bd_e h
        refine h_topi e14 ?_
        refine lv_istore_n (lv' := [(2, .int y13), (4, .int r10), (3, .int r8), (0, .ref (wB ω + 0)), (1, .int x1)]) hx hb dX12_paired_100 rfl hl (by decide) rfl (fun ls hl => ?_)
        refine lv_goto (tgt := 51) hx hb dX12_paired_101 (by decide) ?_
        exact hrec _ H locs ls hH hS (lv_sub hl [3, 4, 0] rfl) h
    · have h := ite_t hc h
      refine lv_iload_n hx hb dX12_paired_77 rfl (lv_at hl 1 rfl) ?_
      exact h_iret C hr hk hH hS rfl (by cases h; rfl) dX12_paired_78
  · have h := ite_t hc h
    refine lv_iload hx hb dX12_paired_68 (lv_at hl 0 rfl) ?_
    exact h_iret C hr hk hH hS rfl (by cases h; rfl) dX12_paired_70
theorem wX12_paired_l51 (hW : FWM ω) (C : Cx ω p s m args c cX12_paired 5 RX12) (hr : meth.sig.returnType = some .int) (hk : meth.locks = false) {rr : Int32} {μo : Mem} {x1 : Int32} {μ : Mem} : ∀ (n : Nat) (x2 : Int32) (H : Heap) (locs : List Loc) (ls : Array Slot), Hd ω μ H → FS ω s H locs → lv_has ls 5 [(0, .ref (wB ω + 0)), (1, .int x1), (2, .int x2)] → fX12_paired_l51 x1 μ n x2 = some (rr, μo) → W p l e (rmd 5) s m args below meth c H locs 0 0 (MQ below (QR ω (some (.int rr)) μo) args s 0 0 (wA ω)) (F0 m 51 ls []) := by
  intro n
  induction n with
  | zero => intro x2 H locs ls hH hS hl h; cases h
  | succ n ih => intro x2 H locs ls hH hS hl h; exact wX12_paired_s51 hW C hr hk ih hH hS hl h
set_option maxHeartbeats 4000000 in
set_option maxRecDepth 100000 in
theorem wX12_paired_b15 (hW : FWM ω) (C : Cx ω p s m args c cX12_paired 5 RX12) (hr : meth.sig.returnType = some .int) (hk : meth.locks = false) {rr : Int32} {μo : Mem} {x1 : Int32} {μ : Mem} {H : Heap} {locs : List Loc} {ls : Array Slot} (hH : Hd ω μ H) (hS : FS ω s H locs) (hl : lv_has ls 5 [(0, .ref (wB ω + 0)), (1, .int x1)]) (h : fX12_paired_b15 x1 μ = some (rr, μo)) : W p l e (rmd 5) s m args below meth c H locs 0 0 (MQ below (QR ω (some (.int rr)) μo) args s 0 0 (wA ω)) (F0 m 15 ls []) := by
  have hx := C.1
  have hb := C.2.1
  unfold fX12_paired_b15 at h
  refine lv_aload_n hx hb dX12_paired_15 rfl (lv_at hl 0 rfl) ?_
  obtain ⟨μ2, e1, h⟩ := b1_e h
  refine cVv (as := []) (rest := []) (c_X12_fillsPaired hW e1) C hl.1 hH hS rfl (jM_0 hW) rfl wd_90 wd_1775 mw_X12_fillsPaired wd_1773 rfl (rm_ok (by decide) (by decide)) (Nat.le_of_ble_eq_true rfl) ⟨Nat.zero_le _, Nat.zero_le _⟩ (by decide) dX12_paired_16 (fun H locs hH hS => ?_)
  refine lv_iconst (v := 1) hx hb dX12_paired_19 (by decide) ?_
  refine lv_aload_n hx hb dX12_paired_20 rfl (lv_at hl 0 rfl) ?_
  obtain ⟨r4, e3, h⟩ := b1_e h
  refine cVi (as := []) (rest := [.int 1]) (c_X12_many hW e3) C hl.1 hH hS rfl (jM_0 hW) rfl wd_31 wd_1182 mw_X12_many wd_1180 rfl (rm_ok (by decide) (by decide)) (Nat.le_of_ble_eq_true rfl) ⟨Nat.zero_le _, Nat.zero_le _⟩ (by decide) dX12_paired_21 (fun H locs hH hS => ?_)
  refine lv_ishl hx hb dX12_paired_24 ?_
  refine lv_iconst (v := 1) hx hb dX12_paired_25 (by decide) ?_
  refine lv_isub hx hb dX12_paired_26 ?_
  obtain ⟨y5, e6, h⟩ := bd_e h
  refine h_topi e6 ?_
  refine lv_istore_n (lv' := [(2, .int y5), (0, .ref (wB ω + 0)), (1, .int x1)]) hx hb dX12_paired_27 rfl hl (by decide) rfl (fun ls hl => ?_)
  refine lv_iload_n hx hb dX12_paired_28 rfl (lv_at hl 2 rfl) ?_
  refine lv_iconst (v := (-1)) hx hb dX12_paired_29 (by decide) ?_
  refine lv_icmp_ne (tgt := 51) hx hb dX12_paired_30 (by decide) (fun hc => ?_) (fun hc => ?_)
  · have h := ite_f hc h
    exact wX12_paired_l51 hW C hr hk FU _ H locs ls hH hS (lv_sub hl [1, 2, 0] rfl) h
  · have h := ite_t hc h
    refine lv_aload_n hx hb dX12_paired_33 rfl (lv_at hl 1 rfl) ?_
    refine g_1249 (i := 43) C hH (jM_0 hW) rfl dX12_paired_34 ?_
    refine lv_iload_n hx hb dX12_paired_37 rfl (lv_at hl 0 rfl) ?_
    obtain ⟨b15, h⟩ := gd_e h
    refine h_iald C hH (jM_43 hW).1 (jM_43 hW).2.1 b15 dX12_paired_38 ?_
    refine lv_sipush (v := 10000) hx hb dX12_paired_39 (by decide) ?_
    refine lv_aload_n hx hb dX12_paired_42 rfl (lv_at hl 1 rfl) ?_
    obtain ⟨r17, e16, h⟩ := b1_e h
    refine cVi (as := []) (rest := [.int 10000, .int (μ2.1 43 y5.toNatClampNeg)]) (c_X12_many hW e16) C hl.1 hH hS rfl (jM_0 hW) rfl wd_31 wd_1182 mw_X12_many wd_1180 rfl (rm_ok (by decide) (by decide)) (Nat.le_of_ble_eq_true rfl) ⟨Nat.zero_le _, Nat.zero_le _⟩ (by decide) dX12_paired_43 (fun H locs hH hS => ?_)
    refine lv_iconst (v := 2) hx hb dX12_paired_46 (by decide) ?_
    refine lv_idiv hx hb dX12_paired_47 (by decide) ?_
    refine lv_imul hx hb dX12_paired_48 ?_
    refine lv_iadd hx hb dX12_paired_49 ?_
    exact h_iret C hr hk hH hS rfl (by cases h; rfl) dX12_paired_50
set_option maxHeartbeats 4000000 in
set_option maxRecDepth 100000 in
theorem wX12_paired_e (hW : FWM ω) (C : Cx ω p s m args c cX12_paired 5 RX12) (hr : meth.sig.returnType = some .int) (hk : meth.locks = false) {rr : Int32} {μo : Mem} {x1 : Int32} {μ : Mem} {H : Heap} {locs : List Loc} {ls : Array Slot} (hH : Hd ω μ H) (hS : FS ω s H locs) (hl : lv_has ls 5 [(0, .ref (wB ω + 0)), (1, .int x1)]) (h : fX12_paired x1 μ = some (rr, μo)) : W p l e (rmd 5) s m args below meth c H locs 0 0 (MQ below (QR ω (some (.int rr)) μo) args s 0 0 (wA ω)) (F0 m 0 ls []) := by
  have hx := C.1
  have hb := C.2.1
  unfold fX12_paired at h
  refine lv_iload_n hx hb dX12_paired_0 rfl (lv_at hl 1 rfl) ?_
  refine lv_iconst (v := (-1)) hx hb dX12_paired_1 (by decide) ?_
  refine lv_icmp_eq (tgt := 15) hx hb dX12_paired_2 (by decide) (fun hc => ?_) (fun hc => ?_)
  · have h := ite_t hc h
    exact wX12_paired_b15 hW C hr hk hH hS hl h
  · have h := ite_f hc h
    refine lv_aload_n hx hb dX12_paired_5 rfl (lv_at hl 0 rfl) ?_
    refine lv_iload_n hx hb dX12_paired_6 rfl (lv_at hl 1 rfl) ?_
    obtain ⟨r19, e18, h⟩ := b1_e h
    refine cVi (as := [.int x1]) (rest := []) (c_X12_isHouse hW e18) C hl.1 hH hS rfl (jM_0 hW) rfl wd_53 wd_1503 mw_X12_isHouse wd_1501 rfl (rm_ok (by decide) (by decide)) (Nat.le_of_ble_eq_true rfl) ⟨Nat.zero_le _, Nat.zero_le _⟩ (by decide) dX12_paired_7 (fun H locs hH hS => ?_)
    refine lv_if_ne (tgt := 15) hx hb dX12_paired_10 (by decide) (fun hc => ?_) (fun hc => ?_)
    · have h := ite_f hc h
      exact wX12_paired_b15 hW C hr hk hH hS hl h
    · have h := ite_t hc h
      refine lv_iconst (v := (-1)) hx hb dX12_paired_13 (by decide) ?_
      exact h_iret C hr hk hH hS rfl (by cases h; rfl) dX12_paired_14
theorem c_X12_paired {l : Launch} {ω : WW} {x1 : Int32} (hW : FWM ω) {μ : Mem} {rr : Int32} {μo : Mem} (h : fX12_paired x1 μ = some (rr, μo)) : Con l yX12_paired cX12_paired 5 (some .int) 5 ω [.ref (wB ω + 0), .int x1] μ (some (.int rr)) μo :=
  con_of (by decide) (Nat.le_of_ble_eq_true rfl) (fun p e s m args below meth c ls C hr hk hl hH hS => wX12_paired_e hW C hr hk hH hS (lv_sub hl [0, 1] rfl) h)
set_option maxHeartbeats 4000000 in
set_option maxRecDepth 100000 in
theorem wX12_pipes_s26 (hW : FWM ω) (C : Cx ω p s m args c cX12_pipes 6 RX12) (hr : meth.sig.returnType = some .int) (hk : meth.locks = false) {rr : Int32} {μ : Mem} {x1 : Int32} {x2 : Int32} {x3 : Int32} {x4 : Int32} {x5 : Int32} {rec : Int32 → Int32 → Option Int32} (hrec : ∀ (z4 : Int32) (z5 : Int32) (H : Heap) (locs : List Loc) (ls : Array Slot), Hd ω μ H → FS ω s H locs → lv_has ls 6 [(0, .ref (wB ω + 0)), (1, .int x1), (2, .int x2), (3, .int x3), (4, .int z4), (5, .int z5)] → rec z4 z5 = some rr → W p l e (rmd 4) s m args below meth c H locs 0 0 (MQ below (QR ω (some (.int rr)) μ) args s 0 0 (wA ω)) (F0 m 26 ls [])) {K : Int32 → Option Int32} (hK : ∀ (z4 : Int32) (H : Heap) (locs : List Loc) (ls : Array Slot), Hd ω μ H → FS ω s H locs → lv_has ls 6 [(0, .ref (wB ω + 0)), (1, .int x1), (2, .int x2), (3, .int x3), (4, .int z4)] → K z4 = some rr → W p l e (rmd 4) s m args below meth c H locs 0 0 (MQ below (QR ω (some (.int rr)) μ) args s 0 0 (wA ω)) (F0 m 92 ls [])) {H : Heap} {locs : List Loc} {ls : Array Slot} (hH : Hd ω μ H) (hS : FS ω s H locs) (hl : lv_has ls 6 [(0, .ref (wB ω + 0)), (1, .int x1), (2, .int x2), (3, .int x3), (4, .int x4), (5, .int x5)]) (h : fX12_pipes_s26 rec K x2 x4 x5 μ = some rr) : W p l e (rmd 4) s m args below meth c H locs 0 0 (MQ below (QR ω (some (.int rr)) μ) args s 0 0 (wA ω)) (F0 m 26 ls []) := by
  have hx := C.1
  have hb := C.2.1
  unfold fX12_pipes_s26 at h
  refine lv_iload hx hb dX12_pipes_26 (lv_at hl 5 rfl) ?_
  refine lv_aload_n hx hb dX12_pipes_28 rfl (lv_at hl 0 rfl) ?_
  obtain ⟨r8, e7, h⟩ := b1_e h
  refine cVi (as := []) (rest := [.int x5]) (c_X12_many hW e7) C hl.1 hH hS rfl (jM_0 hW) rfl wd_31 wd_1182 mw_X12_many wd_1180 rfl (rm_ok (by decide) (by decide)) (Nat.le_of_ble_eq_true rfl) ⟨Nat.zero_le _, Nat.zero_le _⟩ (by decide) dX12_pipes_29 (fun H locs hH hS => ?_)
  refine lv_icmp_ge (tgt := 92) hx hb dX12_pipes_32 (by decide) (fun hc => ?_) (fun hc => ?_)
  · have h := ite_t hc h
    exact hK _ H locs ls hH hS (lv_sub hl [0, 1, 2, 3, 4] rfl) h
  · have h := ite_f hc h
    refine lv_iload_n hx hb dX12_pipes_35 rfl (lv_at hl 2 rfl) ?_
    refine lv_iload hx hb dX12_pipes_36 (lv_at hl 5 rfl) ?_
    refine lv_ishr hx hb dX12_pipes_38 ?_
    refine lv_iconst (v := 1) hx hb dX12_pipes_39 (by decide) ?_
    refine lv_iand hx hb dX12_pipes_40 ?_
    refine lv_iconst (v := 1) hx hb dX12_pipes_41 (by decide) ?_
    refine lv_icmp_ne (tgt := 48) hx hb dX12_pipes_42 (by decide) (fun hc => ?_) (fun hc => ?_)
    · have h := ite_f hc h
      refine lv_iload hx hb dX12_pipes_48 (lv_at hl 4 rfl) ?_
      refine lv_if_lt (tgt := 82) hx hb dX12_pipes_50 (by decide) (fun hc => ?_) (fun hc => ?_)
      · have h := ite_t hc h
        refine lv_iload hx hb dX12_pipes_82 (lv_at hl 5 rfl) ?_
        refine lv_istore (lv' := [(4, .int x5), (0, .ref (wB ω + 0)), (1, .int x1), (2, .int x2), (3, .int x3), (5, .int x5)]) hx hb dX12_pipes_84 hl (by decide) rfl (fun ls hl => ?_)
        refine lv_iinc (v := x5 + 1) (lv' := [(5, .int (x5 + 1)), (4, .int x5), (0, .ref (wB ω + 0)), (1, .int x1), (2, .int x2), (3, .int x3)]) hx hb dX12_pipes_86 hl (k := 5) rfl rfl (by decide) rfl (fun ls hl => ?_)
        refine lv_goto (tgt := 26) hx hb dX12_pipes_89 (by decide) ?_
        exact hrec _ _ H locs ls hH hS (lv_sub hl [2, 3, 4, 5, 1, 0] rfl) h
      · have h := ite_f hc h
        refine lv_aload_n hx hb dX12_pipes_53 rfl (lv_at hl 0 rfl) ?_
        refine lv_iload hx hb dX12_pipes_54 (lv_at hl 5 rfl) ?_
        refine lv_aload_n hx hb dX12_pipes_56 rfl (lv_at hl 0 rfl) ?_
        refine lv_iload hx hb dX12_pipes_57 (lv_at hl 5 rfl) ?_
        refine lv_iload_n hx hb dX12_pipes_59 rfl (lv_at hl 2 rfl) ?_
        obtain ⟨r10, e9, h⟩ := b1_e h
        refine cVi (as := [.int x5, .int x2]) (rest := [.int x5, .ref (wB ω + 0)]) (c_X12_nearestIn hW e9) C hl.1 hH hS rfl (jM_0 hW) rfl wd_87 wd_1743 mw_X12_nearestIn wd_1741 rfl (rm_ok (by decide) (by decide)) (Nat.le_of_ble_eq_true rfl) ⟨Nat.zero_le _, Nat.zero_le _⟩ (by decide) dX12_pipes_60 (fun H locs hH hS => ?_)
        obtain ⟨r12, e11, h⟩ := b1_e h
        refine cVi (as := [.int x5, .int r10]) (rest := []) (c_X12_farOf hW e11) C hl.1 hH hS rfl (jM_0 hW) rfl wd_84 wd_1716 mw_X12_farOf wd_1714 rfl (rm_ok (by decide) (by decide)) (Nat.le_of_ble_eq_true rfl) ⟨Nat.zero_le _, Nat.zero_le _⟩ (by decide) dX12_pipes_63 (fun H locs hH hS => ?_)
        refine lv_aload_n hx hb dX12_pipes_66 rfl (lv_at hl 0 rfl) ?_
        refine lv_iload hx hb dX12_pipes_67 (lv_at hl 4 rfl) ?_
        refine lv_aload_n hx hb dX12_pipes_69 rfl (lv_at hl 0 rfl) ?_
        refine lv_iload hx hb dX12_pipes_70 (lv_at hl 4 rfl) ?_
        refine lv_iload_n hx hb dX12_pipes_72 rfl (lv_at hl 2 rfl) ?_
        obtain ⟨r14, e13, h⟩ := b1_e h
        refine cVi (as := [.int x4, .int x2]) (rest := [.int x4, .ref (wB ω + 0), .int r12]) (c_X12_nearestIn hW e13) C hl.1 hH hS rfl (jM_0 hW) rfl wd_87 wd_1743 mw_X12_nearestIn wd_1741 rfl (rm_ok (by decide) (by decide)) (Nat.le_of_ble_eq_true rfl) ⟨Nat.zero_le _, Nat.zero_le _⟩ (by decide) dX12_pipes_73 (fun H locs hH hS => ?_)
        obtain ⟨r16, e15, h⟩ := b1_e h
        refine cVi (as := [.int x4, .int r14]) (rest := [.int r12]) (c_X12_farOf hW e15) C hl.1 hH hS rfl (jM_0 hW) rfl wd_84 wd_1716 mw_X12_farOf wd_1714 rfl (rm_ok (by decide) (by decide)) (Nat.le_of_ble_eq_true rfl) ⟨Nat.zero_le _, Nat.zero_le _⟩ (by decide) dX12_pipes_76 (fun H locs hH hS => ?_)
        refine lv_icmp_ge (tgt := 86) hx hb dX12_pipes_79 (by decide) (fun hc => ?_) (fun hc => ?_)
        · have h := ite_t hc h
          refine lv_iinc (v := x5 + 1) (lv' := [(5, .int (x5 + 1)), (0, .ref (wB ω + 0)), (1, .int x1), (2, .int x2), (3, .int x3), (4, .int x4)]) hx hb dX12_pipes_86 hl (k := 5) rfl rfl (by decide) rfl (fun ls hl => ?_)
          refine lv_goto (tgt := 26) hx hb dX12_pipes_89 (by decide) ?_
          exact hrec _ _ H locs ls hH hS (lv_sub hl [1, 2, 3, 4, 5, 0] rfl) h
        · have h := ite_f hc h
          refine lv_iload hx hb dX12_pipes_82 (lv_at hl 5 rfl) ?_
          refine lv_istore (lv' := [(4, .int x5), (0, .ref (wB ω + 0)), (1, .int x1), (2, .int x2), (3, .int x3), (5, .int x5)]) hx hb dX12_pipes_84 hl (by decide) rfl (fun ls hl => ?_)
          refine lv_iinc (v := x5 + 1) (lv' := [(5, .int (x5 + 1)), (4, .int x5), (0, .ref (wB ω + 0)), (1, .int x1), (2, .int x2), (3, .int x3)]) hx hb dX12_pipes_86 hl (k := 5) rfl rfl (by decide) rfl (fun ls hl => ?_)
          refine lv_goto (tgt := 26) hx hb dX12_pipes_89 (by decide) ?_
          exact hrec _ _ H locs ls hH hS (lv_sub hl [2, 3, 4, 5, 1, 0] rfl) h
    · have h := ite_t hc h
      refine lv_goto (tgt := 86) hx hb dX12_pipes_45 (by decide) ?_
      refine lv_iinc (v := x5 + 1) (lv' := [(5, .int (x5 + 1)), (0, .ref (wB ω + 0)), (1, .int x1), (2, .int x2), (3, .int x3), (4, .int x4)]) hx hb dX12_pipes_86 hl (k := 5) rfl rfl (by decide) rfl (fun ls hl => ?_)
      refine lv_goto (tgt := 26) hx hb dX12_pipes_89 (by decide) ?_
      exact hrec _ _ H locs ls hH hS (lv_sub hl [1, 2, 3, 4, 5, 0] rfl) h
theorem wX12_pipes_l26 (hW : FWM ω) (C : Cx ω p s m args c cX12_pipes 6 RX12) (hr : meth.sig.returnType = some .int) (hk : meth.locks = false) {rr : Int32} {μ : Mem} {x2 : Int32} {x1 : Int32} {x3 : Int32} {K : Int32 → Option Int32} (hK : ∀ (z4 : Int32) (H : Heap) (locs : List Loc) (ls : Array Slot), Hd ω μ H → FS ω s H locs → lv_has ls 6 [(0, .ref (wB ω + 0)), (1, .int x1), (2, .int x2), (3, .int x3), (4, .int z4)] → K z4 = some rr → W p l e (rmd 4) s m args below meth c H locs 0 0 (MQ below (QR ω (some (.int rr)) μ) args s 0 0 (wA ω)) (F0 m 92 ls [])) : ∀ (n : Nat) (x4 : Int32) (x5 : Int32) (H : Heap) (locs : List Loc) (ls : Array Slot), Hd ω μ H → FS ω s H locs → lv_has ls 6 [(0, .ref (wB ω + 0)), (1, .int x1), (2, .int x2), (3, .int x3), (4, .int x4), (5, .int x5)] → fX12_pipes_l26 K x2 μ n x4 x5 = some rr → W p l e (rmd 4) s m args below meth c H locs 0 0 (MQ below (QR ω (some (.int rr)) μ) args s 0 0 (wA ω)) (F0 m 26 ls []) := by
  intro n
  induction n with
  | zero => intro x4 x5 H locs ls hH hS hl h; cases h
  | succ n ih => intro x4 x5 H locs ls hH hS hl h; exact wX12_pipes_s26 hW C hr hk ih hK hH hS hl h
set_option maxHeartbeats 4000000 in
set_option maxRecDepth 100000 in
theorem wX12_pipes_s15 (hW : FWM ω) (C : Cx ω p s m args c cX12_pipes 6 RX12) (hr : meth.sig.returnType = some .int) (hk : meth.locks = false) {rr : Int32} {μ : Mem} {x1 : Int32} {x2 : Int32} {x3 : Int32} {rec : Int32 → Int32 → Option Int32} (hrec : ∀ (z2 : Int32) (z3 : Int32) (H : Heap) (locs : List Loc) (ls : Array Slot), Hd ω μ H → FS ω s H locs → lv_has ls 6 [(0, .ref (wB ω + 0)), (1, .int x1), (2, .int z2), (3, .int z3)] → rec z2 z3 = some rr → W p l e (rmd 4) s m args below meth c H locs 0 0 (MQ below (QR ω (some (.int rr)) μ) args s 0 0 (wA ω)) (F0 m 15 ls [])) {H : Heap} {locs : List Loc} {ls : Array Slot} (hH : Hd ω μ H) (hS : FS ω s H locs) (hl : lv_has ls 6 [(0, .ref (wB ω + 0)), (1, .int x1), (2, .int x2), (3, .int x3)]) (h : fX12_pipes_s15 rec x1 x2 x3 μ = some rr) : W p l e (rmd 4) s m args below meth c H locs 0 0 (MQ below (QR ω (some (.int rr)) μ) args s 0 0 (wA ω)) (F0 m 15 ls []) := by
  have hx := C.1
  have hb := C.2.1
  unfold fX12_pipes_s15 at h
  refine lv_iload_n hx hb dX12_pipes_15 rfl (lv_at hl 2 rfl) ?_
  refine lv_iload_n hx hb dX12_pipes_16 rfl (lv_at hl 1 rfl) ?_
  refine lv_icmp_eq (tgt := 118) hx hb dX12_pipes_17 (by decide) (fun hc => ?_) (fun hc => ?_)
  · have h := ite_t hc h
    refine lv_iload_n hx hb dX12_pipes_118 rfl (lv_at hl 3 rfl) ?_
    exact h_iret C hr hk hH hS rfl (by cases h; rfl) dX12_pipes_119
  · have h := ite_f hc h
    refine lv_iconst (v := (-1)) hx hb dX12_pipes_20 (by decide) ?_
    refine lv_istore (lv' := [(4, .int (-1)), (0, .ref (wB ω + 0)), (1, .int x1), (2, .int x2), (3, .int x3)]) hx hb dX12_pipes_21 hl (by decide) rfl (fun ls hl => ?_)
    refine lv_iconst (v := 0) hx hb dX12_pipes_23 (by decide) ?_
    refine lv_istore (lv' := [(5, .int 0), (4, .int (-1)), (0, .ref (wB ω + 0)), (1, .int x1), (2, .int x2), (3, .int x3)]) hx hb dX12_pipes_24 hl (by decide) rfl (fun ls hl => ?_)
    refine wX12_pipes_l26 hW C hr hk (fun y17 H locs ls hH hS hl h => ?_) FU _ _ H locs ls hH hS (lv_sub hl [2, 3, 4, 5, 1, 0] rfl) h
    refine lv_iload_n hx hb dX12_pipes_92 rfl (lv_at hl 3 rfl) ?_
    refine lv_aload_n hx hb dX12_pipes_93 rfl (lv_at hl 0 rfl) ?_
    refine lv_iload hx hb dX12_pipes_94 (lv_at hl 4 rfl) ?_
    refine lv_aload_n hx hb dX12_pipes_96 rfl (lv_at hl 0 rfl) ?_
    refine lv_iload hx hb dX12_pipes_97 (lv_at hl 4 rfl) ?_
    refine lv_iload_n hx hb dX12_pipes_99 rfl (lv_at hl 2 rfl) ?_
    obtain ⟨r19, e18, h⟩ := b1_e h
    refine cVi (as := [.int y17, .int x2]) (rest := [.int y17, .ref (wB ω + 0), .int x3]) (c_X12_nearestIn hW e18) C hl.1 hH hS rfl (jM_0 hW) rfl wd_87 wd_1743 mw_X12_nearestIn wd_1741 rfl (rm_ok (by decide) (by decide)) (Nat.le_of_ble_eq_true rfl) ⟨Nat.zero_le _, Nat.zero_le _⟩ (by decide) dX12_pipes_100 (fun H locs hH hS => ?_)
    obtain ⟨r21, e20, h⟩ := b1_e h
    refine cVi (as := [.int y17, .int r19]) (rest := [.int x3]) (c_X12_farOf hW e20) C hl.1 hH hS rfl (jM_0 hW) rfl wd_84 wd_1716 mw_X12_farOf wd_1714 rfl (rm_ok (by decide) (by decide)) (Nat.le_of_ble_eq_true rfl) ⟨Nat.zero_le _, Nat.zero_le _⟩ (by decide) dX12_pipes_103 (fun H locs hH hS => ?_)
    refine lv_iadd hx hb dX12_pipes_106 ?_
    obtain ⟨y22, e23, h⟩ := bd_e h
    refine h_topi e23 ?_
    refine lv_istore_n (lv' := [(3, .int y22), (0, .ref (wB ω + 0)), (1, .int x1), (2, .int x2), (4, .int y17)]) hx hb dX12_pipes_107 rfl hl (by decide) rfl (fun ls hl => ?_)
    refine lv_iload_n hx hb dX12_pipes_108 rfl (lv_at hl 3 rfl) ?_
    refine lv_iconst (v := 1) hx hb dX12_pipes_109 (by decide) ?_
    refine lv_iload hx hb dX12_pipes_110 (lv_at hl 4 rfl) ?_
    refine lv_ishl hx hb dX12_pipes_112 ?_
    refine lv_ior hx hb dX12_pipes_113 ?_
    obtain ⟨y24, e25, h⟩ := bd_e h
    refine h_topi e25 ?_
    refine lv_istore_n (lv' := [(2, .int y24), (3, .int y22), (0, .ref (wB ω + 0)), (1, .int x1), (4, .int y17)]) hx hb dX12_pipes_114 rfl hl (by decide) rfl (fun ls hl => ?_)
    refine lv_goto (tgt := 15) hx hb dX12_pipes_115 (by decide) ?_
    exact hrec _ _ H locs ls hH hS (lv_sub hl [2, 3, 0, 1] rfl) h
theorem wX12_pipes_l15 (hW : FWM ω) (C : Cx ω p s m args c cX12_pipes 6 RX12) (hr : meth.sig.returnType = some .int) (hk : meth.locks = false) {rr : Int32} {μ : Mem} {x1 : Int32} : ∀ (n : Nat) (x2 : Int32) (x3 : Int32) (H : Heap) (locs : List Loc) (ls : Array Slot), Hd ω μ H → FS ω s H locs → lv_has ls 6 [(0, .ref (wB ω + 0)), (1, .int x1), (2, .int x2), (3, .int x3)] → fX12_pipes_l15 x1 μ n x2 x3 = some rr → W p l e (rmd 4) s m args below meth c H locs 0 0 (MQ below (QR ω (some (.int rr)) μ) args s 0 0 (wA ω)) (F0 m 15 ls []) := by
  intro n
  induction n with
  | zero => intro x2 x3 H locs ls hH hS hl h; cases h
  | succ n ih => intro x2 x3 H locs ls hH hS hl h; exact wX12_pipes_s15 hW C hr hk ih hH hS hl h
set_option maxHeartbeats 4000000 in
set_option maxRecDepth 100000 in
theorem wX12_pipes_e (hW : FWM ω) (C : Cx ω p s m args c cX12_pipes 6 RX12) (hr : meth.sig.returnType = some .int) (hk : meth.locks = false) {rr : Int32} {μ : Mem} {H : Heap} {locs : List Loc} {ls : Array Slot} (hH : Hd ω μ H) (hS : FS ω s H locs) (hl : lv_has ls 6 [(0, .ref (wB ω + 0))]) (h : fX12_pipes μ = some rr) : W p l e (rmd 4) s m args below meth c H locs 0 0 (MQ below (QR ω (some (.int rr)) μ) args s 0 0 (wA ω)) (F0 m 0 ls []) := by
  have hx := C.1
  have hb := C.2.1
  unfold fX12_pipes at h
  refine lv_iconst (v := 1) hx hb dX12_pipes_0 (by decide) ?_
  refine lv_aload_n hx hb dX12_pipes_1 rfl (lv_at hl 0 rfl) ?_
  obtain ⟨r2, e1, h⟩ := b1_e h
  refine cVi (as := []) (rest := [.int 1]) (c_X12_many hW e1) C hl.1 hH hS rfl (jM_0 hW) rfl wd_31 wd_1182 mw_X12_many wd_1180 rfl (rm_ok (by decide) (by decide)) (Nat.le_of_ble_eq_true rfl) ⟨Nat.zero_le _, Nat.zero_le _⟩ (by decide) dX12_pipes_2 (fun H locs hH hS => ?_)
  refine lv_ishl hx hb dX12_pipes_5 ?_
  refine lv_iconst (v := 1) hx hb dX12_pipes_6 (by decide) ?_
  refine lv_isub hx hb dX12_pipes_7 ?_
  obtain ⟨y3, e4, h⟩ := bd_e h
  refine h_topi e4 ?_
  refine lv_istore_n (lv' := [(1, .int y3), (0, .ref (wB ω + 0))]) hx hb dX12_pipes_8 rfl hl (by decide) rfl (fun ls hl => ?_)
  refine lv_iload_n hx hb dX12_pipes_9 rfl (lv_at hl 0 rfl) ?_
  refine lv_iconst (v := 1) hx hb dX12_pipes_10 (by decide) ?_
  refine lv_iand hx hb dX12_pipes_11 ?_
  obtain ⟨y5, e6, h⟩ := bd_e h
  refine h_topi e6 ?_
  refine lv_istore_n (lv' := [(2, .int y5), (1, .int y3), (0, .ref (wB ω + 0))]) hx hb dX12_pipes_12 rfl hl (by decide) rfl (fun ls hl => ?_)
  refine lv_iconst (v := 0) hx hb dX12_pipes_13 (by decide) ?_
  refine lv_istore_n (lv' := [(3, .int 0), (2, .int y5), (1, .int y3), (0, .ref (wB ω + 0))]) hx hb dX12_pipes_14 rfl hl (by decide) rfl (fun ls hl => ?_)
  exact wX12_pipes_l15 hW C hr hk FU _ _ H locs ls hH hS (lv_sub hl [3, 2, 1, 0] rfl) h
theorem c_X12_pipes {l : Launch} {ω : WW} (hW : FWM ω) {μ : Mem} {rr : Int32} (h : fX12_pipes μ = some rr) : Con l yX12_pipes cX12_pipes 6 (some .int) 4 ω [.ref (wB ω + 0)] μ (some (.int rr)) μ :=
  con_of (by decide) (Nat.le_of_ble_eq_true rfl) (fun p e s m args below meth c ls C hr hk hl hH hS => wX12_pipes_e hW C hr hk hH hS (lv_sub hl [0] rfl) h)
set_option maxHeartbeats 4000000 in
set_option maxRecDepth 100000 in
theorem wX12_place_e (hW : FWM ω) (C : Cx ω p s m args c cX12_place 1 RX12) (hr : meth.sig.returnType = some .int) (hk : meth.locks = false) {rr : Int32} {μ : Mem} {H : Heap} {locs : List Loc} {ls : Array Slot} (hH : Hd ω μ H) (hS : FS ω s H locs) (hl : lv_has ls 1 [(0, .ref (wB ω + 0))]) (h : fX12_place μ = some rr) : W p l e (rmd 1) s m args below meth c H locs 0 0 (MQ below (QR ω (some (.int rr)) μ) args s 0 0 (wA ω)) (F0 m 0 ls []) := by
  have hx := C.1
  have hb := C.2.1
  unfold fX12_place at h
  refine lv_aload_n hx hb dX12_place_0 rfl (lv_at hl 0 rfl) ?_
  refine g_1204 C hH (jM_0 hW) dX12_place_1 ?_
  exact h_iret C hr hk hH hS rfl (by cases h; rfl) dX12_place_4
theorem c_X12_place {l : Launch} {ω : WW} (hW : FWM ω) {μ : Mem} {rr : Int32} (h : fX12_place μ = some rr) : Con l yX12_place cX12_place 1 (some .int) 1 ω [.ref (wB ω + 0)] μ (some (.int rr)) μ :=
  con_of (by decide) (Nat.le_of_ble_eq_true rfl) (fun p e s m args below meth c ls C hr hk hl hH hS => wX12_place_e hW C hr hk hH hS (lv_sub hl [0] rfl) h)
set_option maxHeartbeats 4000000 in
set_option maxRecDepth 100000 in
theorem wX12_plain_s39 (hW : FWM ω) (C : Cx ω p s m args c cX12_plain 3 RX12) (hr : meth.sig.returnType = none) (hk : meth.locks = false) {μo : Mem} {x1 : Int32} {x2 : Int32} {rec : Int32 → Mem → Option Mem} (hrec : ∀ (z2 : Int32) (ν : Mem) (H : Heap) (locs : List Loc) (ls : Array Slot), Hd ω ν H → FS ω s H locs → lv_has ls 3 [(0, .ref (wB ω + 0)), (1, .int x1), (2, .int z2)] → rec z2 ν = some μo → W p l e (rmd 1) s m args below meth c H locs 0 0 (MQ below (QR ω none μo) args s 0 0 (wA ω)) (F0 m 39 ls [])) {μ : Mem} {H : Heap} {locs : List Loc} {ls : Array Slot} (hH : Hd ω μ H) (hS : FS ω s H locs) (hl : lv_has ls 3 [(0, .ref (wB ω + 0)), (1, .int x1), (2, .int x2)]) (h : fX12_plain_s39 rec x1 x2 μ = some μo) : W p l e (rmd 1) s m args below meth c H locs 0 0 (MQ below (QR ω none μo) args s 0 0 (wA ω)) (F0 m 39 ls []) := by
  have hx := C.1
  have hb := C.2.1
  unfold fX12_plain_s39 at h
  refine lv_iload_n hx hb dX12_plain_39 rfl (lv_at hl 2 rfl) ?_
  refine lv_iconst (v := 4) hx hb dX12_plain_40 (by decide) ?_
  refine lv_icmp_ge (tgt := 72) hx hb dX12_plain_41 (by decide) (fun hc => ?_) (fun hc => ?_)
  · have h := ite_t hc h
    exact h_vret C hr hk hH hS (by cases h; rfl) dX12_plain_72
  · have h := ite_f hc h
    refine lv_aload_n hx hb dX12_plain_44 rfl (lv_at hl 0 rfl) ?_
    refine g_1218 (i := 19) C hH (jM_0 hW) rfl dX12_plain_45 ?_
    refine lv_iconst (v := 4) hx hb dX12_plain_48 (by decide) ?_
    refine lv_iload_n hx hb dX12_plain_49 rfl (lv_at hl 1 rfl) ?_
    refine lv_imul hx hb dX12_plain_50 ?_
    refine lv_iload_n hx hb dX12_plain_51 rfl (lv_at hl 2 rfl) ?_
    refine lv_iadd hx hb dX12_plain_52 ?_
    refine lv_iconst (v := 0) hx hb dX12_plain_53 (by decide) ?_
    obtain ⟨b16, h⟩ := gd_e h
    obtain ⟨μ17, e18, h⟩ := bd_e h
    refine h_iast C hH hS (jM_19 hW).1 (jM_19 hW).2.1 b16 dX12_plain_54 (fun H locs hH hS => ?_)
    have hH := Hd.to e18 hH
    refine lv_aload_n hx hb dX12_plain_55 rfl (lv_at hl 0 rfl) ?_
    refine g_1219 (i := 20) C hH (jM_0 hW) rfl dX12_plain_56 ?_
    refine lv_iconst (v := 4) hx hb dX12_plain_59 (by decide) ?_
    refine lv_iload_n hx hb dX12_plain_60 rfl (lv_at hl 1 rfl) ?_
    refine lv_imul hx hb dX12_plain_61 ?_
    refine lv_iload_n hx hb dX12_plain_62 rfl (lv_at hl 2 rfl) ?_
    refine lv_iadd hx hb dX12_plain_63 ?_
    refine lv_iconst (v := 0) hx hb dX12_plain_64 (by decide) ?_
    obtain ⟨b19, h⟩ := gd_e h
    obtain ⟨μ20, e21, h⟩ := bd_e h
    refine h_iast C hH hS (jM_20 hW).1 (jM_20 hW).2.1 b19 dX12_plain_65 (fun H locs hH hS => ?_)
    have hH := Hd.to e21 hH
    refine lv_iinc (v := x2 + 1) (lv' := [(2, .int (x2 + 1)), (0, .ref (wB ω + 0)), (1, .int x1)]) hx hb dX12_plain_66 hl (k := 2) rfl rfl (by decide) rfl (fun ls hl => ?_)
    refine lv_goto (tgt := 39) hx hb dX12_plain_69 (by decide) ?_
    exact hrec _ _ H locs ls hH hS (lv_sub hl [1, 2, 0] rfl) h
theorem wX12_plain_l39 (hW : FWM ω) (C : Cx ω p s m args c cX12_plain 3 RX12) (hr : meth.sig.returnType = none) (hk : meth.locks = false) {μo : Mem} {x1 : Int32} : ∀ (n : Nat) (x2 : Int32) (μ : Mem) (H : Heap) (locs : List Loc) (ls : Array Slot), Hd ω μ H → FS ω s H locs → lv_has ls 3 [(0, .ref (wB ω + 0)), (1, .int x1), (2, .int x2)] → fX12_plain_l39 x1 n x2 μ = some μo → W p l e (rmd 1) s m args below meth c H locs 0 0 (MQ below (QR ω none μo) args s 0 0 (wA ω)) (F0 m 39 ls []) := by
  intro n
  induction n with
  | zero => intro x2 μ H locs ls hH hS hl h; cases h
  | succ n ih => intro x2 μ H locs ls hH hS hl h; exact wX12_plain_s39 hW C hr hk ih hH hS hl h
set_option maxHeartbeats 4000000 in
set_option maxRecDepth 100000 in
theorem wX12_plain_e (hW : FWM ω) (C : Cx ω p s m args c cX12_plain 3 RX12) (hr : meth.sig.returnType = none) (hk : meth.locks = false) {μo : Mem} {x1 : Int32} {μ : Mem} {H : Heap} {locs : List Loc} {ls : Array Slot} (hH : Hd ω μ H) (hS : FS ω s H locs) (hl : lv_has ls 3 [(0, .ref (wB ω + 0)), (1, .int x1)]) (h : fX12_plain x1 μ = some μo) : W p l e (rmd 1) s m args below meth c H locs 0 0 (MQ below (QR ω none μo) args s 0 0 (wA ω)) (F0 m 0 ls []) := by
  have hx := C.1
  have hb := C.2.1
  unfold fX12_plain at h
  refine lv_aload_n hx hb dX12_plain_0 rfl (lv_at hl 0 rfl) ?_
  refine g_1208 (i := 9) C hH (jM_0 hW) rfl dX12_plain_1 ?_
  refine lv_iload_n hx hb dX12_plain_4 rfl (lv_at hl 1 rfl) ?_
  refine lv_iconst (v := 0) hx hb dX12_plain_5 (by decide) ?_
  obtain ⟨b1, h⟩ := gd_e h
  obtain ⟨μ2, e3, h⟩ := bd_e h
  refine h_iast C hH hS (jM_9 hW).1 (jM_9 hW).2.1 b1 dX12_plain_6 (fun H locs hH hS => ?_)
  have hH := Hd.to e3 hH
  refine lv_aload_n hx hb dX12_plain_7 rfl (lv_at hl 0 rfl) ?_
  refine g_1214 (i := 15) C hH (jM_0 hW) rfl dX12_plain_8 ?_
  refine lv_iload_n hx hb dX12_plain_11 rfl (lv_at hl 1 rfl) ?_
  refine lv_bipush (v := 20) hx hb dX12_plain_12 (by decide) ?_
  obtain ⟨b4, h⟩ := gd_e h
  obtain ⟨μ5, e6, h⟩ := bd_e h
  refine h_iast C hH hS (jM_15 hW).1 (jM_15 hW).2.1 b4 dX12_plain_14 (fun H locs hH hS => ?_)
  have hH := Hd.to e6 hH
  refine lv_aload_n hx hb dX12_plain_15 rfl (lv_at hl 0 rfl) ?_
  refine g_1215 (i := 16) C hH (jM_0 hW) rfl dX12_plain_16 ?_
  refine lv_iload_n hx hb dX12_plain_19 rfl (lv_at hl 1 rfl) ?_
  refine lv_bipush (v := 20) hx hb dX12_plain_20 (by decide) ?_
  obtain ⟨b7, h⟩ := gd_e h
  obtain ⟨μ8, e9, h⟩ := bd_e h
  refine h_iast C hH hS (jM_16 hW).1 (jM_16 hW).2.1 b7 dX12_plain_22 (fun H locs hH hS => ?_)
  have hH := Hd.to e9 hH
  refine lv_aload_n hx hb dX12_plain_23 rfl (lv_at hl 0 rfl) ?_
  refine g_1216 (i := 17) C hH (jM_0 hW) rfl dX12_plain_24 ?_
  refine lv_iload_n hx hb dX12_plain_27 rfl (lv_at hl 1 rfl) ?_
  refine lv_iconst (v := 0) hx hb dX12_plain_28 (by decide) ?_
  obtain ⟨b10, h⟩ := gd_e h
  obtain ⟨μ11, e12, h⟩ := bd_e h
  refine h_iast C hH hS (jM_17 hW).1 (jM_17 hW).2.1 b10 dX12_plain_29 (fun H locs hH hS => ?_)
  have hH := Hd.to e12 hH
  refine lv_aload_n hx hb dX12_plain_30 rfl (lv_at hl 0 rfl) ?_
  refine g_1217 (i := 18) C hH (jM_0 hW) rfl dX12_plain_31 ?_
  refine lv_iload_n hx hb dX12_plain_34 rfl (lv_at hl 1 rfl) ?_
  refine lv_iconst (v := 0) hx hb dX12_plain_35 (by decide) ?_
  obtain ⟨b13, h⟩ := gd_e h
  obtain ⟨μ14, e15, h⟩ := bd_e h
  refine h_iast C hH hS (jM_18 hW).1 (jM_18 hW).2.1 b13 dX12_plain_36 (fun H locs hH hS => ?_)
  have hH := Hd.to e15 hH
  refine lv_iconst (v := 0) hx hb dX12_plain_37 (by decide) ?_
  refine lv_istore_n (lv' := [(2, .int 0), (0, .ref (wB ω + 0)), (1, .int x1)]) hx hb dX12_plain_38 rfl hl (by decide) rfl (fun ls hl => ?_)
  exact wX12_plain_l39 hW C hr hk FU _ _ H locs ls hH hS (lv_sub hl [1, 2, 0] rfl) h
theorem c_X12_plain {l : Launch} {ω : WW} {x1 : Int32} (hW : FWM ω) {μ : Mem} {μo : Mem} (h : fX12_plain x1 μ = some μo) : Con l yX12_plain cX12_plain 3 none 1 ω [.ref (wB ω + 0), .int x1] μ none μo :=
  con_of (by decide) (Nat.le_of_ble_eq_true rfl) (fun p e s m args below meth c ls C hr hk hl hH hS => wX12_plain_e hW C hr hk hH hS (lv_sub hl [0, 1] rfl) h)
set_option maxHeartbeats 4000000 in
set_option maxRecDepth 100000 in
theorem wX12_plan_s51 (hW : FWM ω) (C : Cx ω p s m args c cX12_plan 9 RX12) (hr : meth.sig.returnType = some .int) (hk : meth.locks = false) {rr : Int32} {μo : Mem} {x1 : Int32} {x2 : Int32} {x3 : Int32} {x4 : Int32} {x5 : Int32} {x6 : Int32} {x7 : Int32} {rec : Int32 → Mem → Option (Int32 × Mem)} (hrec : ∀ (z7 : Int32) (ν : Mem) (H : Heap) (locs : List Loc) (ls : Array Slot), Hd ω ν H → FS ω s H locs → lv_has ls 9 [(0, .ref (wB ω + 0)), (1, .int x1), (2, .int x2), (3, .int x3), (4, .int x4), (5, .int x5), (6, .int x6), (7, .int z7)] → rec z7 ν = some (rr, μo) → W p l e (rmd 9) s m args below meth c H locs 0 0 (MQ below (QR ω (some (.int rr)) μo) args s 0 0 (wA ω)) (F0 m 51 ls [])) {K : Mem → Option (Int32 × Mem)} (hK : ∀ (ν : Mem) (H : Heap) (locs : List Loc) (ls : Array Slot), Hd ω ν H → FS ω s H locs → lv_has ls 9 [(0, .ref (wB ω + 0)), (1, .int x1), (2, .int x2), (3, .int x3), (4, .int x4), (5, .int x5), (6, .int x6)] → K ν = some (rr, μo) → W p l e (rmd 9) s m args below meth c H locs 0 0 (MQ below (QR ω (some (.int rr)) μo) args s 0 0 (wA ω)) (F0 m 78 ls [])) {μ : Mem} {H : Heap} {locs : List Loc} {ls : Array Slot} (hH : Hd ω μ H) (hS : FS ω s H locs) (hl : lv_has ls 9 [(0, .ref (wB ω + 0)), (1, .int x1), (2, .int x2), (3, .int x3), (4, .int x4), (5, .int x5), (6, .int x6), (7, .int x7)]) (h : fX12_plan_s51 rec K x7 μ = some (rr, μo)) : W p l e (rmd 9) s m args below meth c H locs 0 0 (MQ below (QR ω (some (.int rr)) μo) args s 0 0 (wA ω)) (F0 m 51 ls []) := by
  have hx := C.1
  have hb := C.2.1
  unfold fX12_plan_s51 at h
  refine lv_iload hx hb dX12_plan_51 (lv_at hl 7 rfl) ?_
  refine lv_bipush (v := 39) hx hb dX12_plan_53 (by decide) ?_
  refine lv_icmp_ge (tgt := 78) hx hb dX12_plan_55 (by decide) (fun hc => ?_) (fun hc => ?_)
  · have h := ite_t hc h
    exact hK _ H locs ls hH hS (lv_sub hl [0, 1, 2, 3, 4, 5, 6] rfl) h
  · have h := ite_f hc h
    refine lv_aload_n hx hb dX12_plan_58 rfl (lv_at hl 0 rfl) ?_
    refine g_1244 (i := 38) C hH (jM_0 hW) rfl dX12_plan_59 ?_
    refine lv_iload hx hb dX12_plan_62 (lv_at hl 7 rfl) ?_
    refine lv_aload_n hx hb dX12_plan_64 rfl (lv_at hl 0 rfl) ?_
    refine g_1235 (i := 32) C hH (jM_0 hW) rfl dX12_plan_65 ?_
    refine lv_iload hx hb dX12_plan_68 (lv_at hl 7 rfl) ?_
    obtain ⟨b9, h⟩ := gd_e h
    refine h_iald C hH (jM_32 hW).1 (jM_32 hW).2.1 b9 dX12_plan_70 ?_
    obtain ⟨b10, h⟩ := gd_e h
    obtain ⟨μ11, e12, h⟩ := bd_e h
    refine h_iast C hH hS (jM_38 hW).1 (jM_38 hW).2.1 b10 dX12_plan_71 (fun H locs hH hS => ?_)
    have hH := Hd.to e12 hH
    refine lv_iinc (v := x7 + 1) (lv' := [(7, .int (x7 + 1)), (0, .ref (wB ω + 0)), (1, .int x1), (2, .int x2), (3, .int x3), (4, .int x4), (5, .int x5), (6, .int x6)]) hx hb dX12_plan_72 hl (k := 7) rfl rfl (by decide) rfl (fun ls hl => ?_)
    refine lv_goto (tgt := 51) hx hb dX12_plan_75 (by decide) ?_
    exact hrec _ _ H locs ls hH hS (lv_sub hl [1, 2, 3, 4, 5, 6, 7, 0] rfl) h
theorem wX12_plan_l51 (hW : FWM ω) (C : Cx ω p s m args c cX12_plan 9 RX12) (hr : meth.sig.returnType = some .int) (hk : meth.locks = false) {rr : Int32} {μo : Mem} {x1 : Int32} {x2 : Int32} {x3 : Int32} {x4 : Int32} {x5 : Int32} {x6 : Int32} {K : Mem → Option (Int32 × Mem)} (hK : ∀ (ν : Mem) (H : Heap) (locs : List Loc) (ls : Array Slot), Hd ω ν H → FS ω s H locs → lv_has ls 9 [(0, .ref (wB ω + 0)), (1, .int x1), (2, .int x2), (3, .int x3), (4, .int x4), (5, .int x5), (6, .int x6)] → K ν = some (rr, μo) → W p l e (rmd 9) s m args below meth c H locs 0 0 (MQ below (QR ω (some (.int rr)) μo) args s 0 0 (wA ω)) (F0 m 78 ls [])) : ∀ (n : Nat) (x7 : Int32) (μ : Mem) (H : Heap) (locs : List Loc) (ls : Array Slot), Hd ω μ H → FS ω s H locs → lv_has ls 9 [(0, .ref (wB ω + 0)), (1, .int x1), (2, .int x2), (3, .int x3), (4, .int x4), (5, .int x5), (6, .int x6), (7, .int x7)] → fX12_plan_l51 K n x7 μ = some (rr, μo) → W p l e (rmd 9) s m args below meth c H locs 0 0 (MQ below (QR ω (some (.int rr)) μo) args s 0 0 (wA ω)) (F0 m 51 ls []) := by
  intro n
  induction n with
  | zero => intro x7 μ H locs ls hH hS hl h; cases h
  | succ n ih => intro x7 μ H locs ls hH hS hl h; exact wX12_plan_s51 hW C hr hk ih hK hH hS hl h
set_option maxHeartbeats 4000000 in
set_option maxRecDepth 100000 in
theorem wX12_plan_s93 (hW : FWM ω) (C : Cx ω p s m args c cX12_plan 9 RX12) (hr : meth.sig.returnType = some .int) (hk : meth.locks = false) {rr : Int32} {μo : Mem} {x1 : Int32} {x2 : Int32} {x3 : Int32} {x4 : Int32} {x5 : Int32} {x6 : Int32} {x7 : Int32} {x8 : Int32} {rec : Int32 → Mem → Option (Int32 × Mem)} (hrec : ∀ (z8 : Int32) (ν : Mem) (H : Heap) (locs : List Loc) (ls : Array Slot), Hd ω ν H → FS ω s H locs → lv_has ls 9 [(0, .ref (wB ω + 0)), (1, .int x1), (2, .int x2), (3, .int x3), (4, .int x4), (5, .int x5), (6, .int x6), (7, .int x7), (8, .int z8)] → rec z8 ν = some (rr, μo) → W p l e (rmd 9) s m args below meth c H locs 0 0 (MQ below (QR ω (some (.int rr)) μo) args s 0 0 (wA ω)) (F0 m 93 ls [])) {K : Mem → Option (Int32 × Mem)} (hK : ∀ (ν : Mem) (H : Heap) (locs : List Loc) (ls : Array Slot), Hd ω ν H → FS ω s H locs → lv_has ls 9 [(0, .ref (wB ω + 0)), (1, .int x1), (2, .int x2), (3, .int x3), (4, .int x4), (5, .int x5), (6, .int x6), (7, .int x7)] → K ν = some (rr, μo) → W p l e (rmd 9) s m args below meth c H locs 0 0 (MQ below (QR ω (some (.int rr)) μo) args s 0 0 (wA ω)) (F0 m 120 ls [])) {μ : Mem} {H : Heap} {locs : List Loc} {ls : Array Slot} (hH : Hd ω μ H) (hS : FS ω s H locs) (hl : lv_has ls 9 [(0, .ref (wB ω + 0)), (1, .int x1), (2, .int x2), (3, .int x3), (4, .int x4), (5, .int x5), (6, .int x6), (7, .int x7), (8, .int x8)]) (h : fX12_plan_s93 rec K x8 μ = some (rr, μo)) : W p l e (rmd 9) s m args below meth c H locs 0 0 (MQ below (QR ω (some (.int rr)) μo) args s 0 0 (wA ω)) (F0 m 93 ls []) := by
  have hx := C.1
  have hb := C.2.1
  unfold fX12_plan_s93 at h
  refine lv_iload hx hb dX12_plan_93 (lv_at hl 8 rfl) ?_
  refine lv_bipush (v := 39) hx hb dX12_plan_95 (by decide) ?_
  refine lv_icmp_ge (tgt := 120) hx hb dX12_plan_97 (by decide) (fun hc => ?_) (fun hc => ?_)
  · have h := ite_t hc h
    exact hK _ H locs ls hH hS (lv_sub hl [0, 1, 2, 3, 4, 5, 6, 7] rfl) h
  · have h := ite_f hc h
    refine lv_aload_n hx hb dX12_plan_100 rfl (lv_at hl 0 rfl) ?_
    refine g_1235 (i := 32) C hH (jM_0 hW) rfl dX12_plan_101 ?_
    refine lv_iload hx hb dX12_plan_104 (lv_at hl 8 rfl) ?_
    refine lv_aload_n hx hb dX12_plan_106 rfl (lv_at hl 0 rfl) ?_
    refine g_1244 (i := 38) C hH (jM_0 hW) rfl dX12_plan_107 ?_
    refine lv_iload hx hb dX12_plan_110 (lv_at hl 8 rfl) ?_
    obtain ⟨b14, h⟩ := gd_e h
    refine h_iald C hH (jM_38 hW).1 (jM_38 hW).2.1 b14 dX12_plan_112 ?_
    obtain ⟨b15, h⟩ := gd_e h
    obtain ⟨μ16, e17, h⟩ := bd_e h
    refine h_iast C hH hS (jM_32 hW).1 (jM_32 hW).2.1 b15 dX12_plan_113 (fun H locs hH hS => ?_)
    have hH := Hd.to e17 hH
    refine lv_iinc (v := x8 + 1) (lv' := [(8, .int (x8 + 1)), (0, .ref (wB ω + 0)), (1, .int x1), (2, .int x2), (3, .int x3), (4, .int x4), (5, .int x5), (6, .int x6), (7, .int x7)]) hx hb dX12_plan_114 hl (k := 8) rfl rfl (by decide) rfl (fun ls hl => ?_)
    refine lv_goto (tgt := 93) hx hb dX12_plan_117 (by decide) ?_
    exact hrec _ _ H locs ls hH hS (lv_sub hl [1, 2, 3, 4, 5, 6, 7, 8, 0] rfl) h
theorem wX12_plan_l93 (hW : FWM ω) (C : Cx ω p s m args c cX12_plan 9 RX12) (hr : meth.sig.returnType = some .int) (hk : meth.locks = false) {rr : Int32} {μo : Mem} {x1 : Int32} {x2 : Int32} {x3 : Int32} {x4 : Int32} {x5 : Int32} {x6 : Int32} {x7 : Int32} {K : Mem → Option (Int32 × Mem)} (hK : ∀ (ν : Mem) (H : Heap) (locs : List Loc) (ls : Array Slot), Hd ω ν H → FS ω s H locs → lv_has ls 9 [(0, .ref (wB ω + 0)), (1, .int x1), (2, .int x2), (3, .int x3), (4, .int x4), (5, .int x5), (6, .int x6), (7, .int x7)] → K ν = some (rr, μo) → W p l e (rmd 9) s m args below meth c H locs 0 0 (MQ below (QR ω (some (.int rr)) μo) args s 0 0 (wA ω)) (F0 m 120 ls [])) : ∀ (n : Nat) (x8 : Int32) (μ : Mem) (H : Heap) (locs : List Loc) (ls : Array Slot), Hd ω μ H → FS ω s H locs → lv_has ls 9 [(0, .ref (wB ω + 0)), (1, .int x1), (2, .int x2), (3, .int x3), (4, .int x4), (5, .int x5), (6, .int x6), (7, .int x7), (8, .int x8)] → fX12_plan_l93 K n x8 μ = some (rr, μo) → W p l e (rmd 9) s m args below meth c H locs 0 0 (MQ below (QR ω (some (.int rr)) μo) args s 0 0 (wA ω)) (F0 m 93 ls []) := by
  intro n
  induction n with
  | zero => intro x8 μ H locs ls hH hS hl h; cases h
  | succ n ih => intro x8 μ H locs ls hH hS hl h; exact wX12_plan_s93 hW C hr hk ih hK hH hS hl h
set_option maxHeartbeats 4000000 in
set_option maxRecDepth 100000 in
theorem wX12_plan_s81 (hW : FWM ω) (C : Cx ω p s m args c cX12_plan 9 RX12) (hr : meth.sig.returnType = some .int) (hk : meth.locks = false) {rr : Int32} {μo : Mem} {x1 : Int32} {x2 : Int32} {x3 : Int32} {x4 : Int32} {x5 : Int32} {x6 : Int32} {x7 : Int32} {rec : Int32 → Int32 → Int32 → Int32 → Mem → Option (Int32 × Mem)} (hrec : ∀ (z3 : Int32) (z4 : Int32) (z5 : Int32) (z7 : Int32) (ν : Mem) (H : Heap) (locs : List Loc) (ls : Array Slot), Hd ω ν H → FS ω s H locs → lv_has ls 9 [(0, .ref (wB ω + 0)), (1, .int x1), (2, .int x2), (3, .int z3), (4, .int z4), (5, .int z5), (6, .int x6), (7, .int z7)] → rec z3 z4 z5 z7 ν = some (rr, μo) → W p l e (rmd 9) s m args below meth c H locs 0 0 (MQ below (QR ω (some (.int rr)) μo) args s 0 0 (wA ω)) (F0 m 81 ls [])) {K : Int32 → Int32 → Int32 → Mem → Option (Int32 × Mem)} (hK : ∀ (z3 : Int32) (z4 : Int32) (z5 : Int32) (ν : Mem) (H : Heap) (locs : List Loc) (ls : Array Slot), Hd ω ν H → FS ω s H locs → lv_has ls 9 [(0, .ref (wB ω + 0)), (1, .int x1), (2, .int x2), (3, .int z3), (4, .int z4), (5, .int z5), (6, .int x6)] → K z3 z4 z5 ν = some (rr, μo) → W p l e (rmd 9) s m args below meth c H locs 0 0 (MQ below (QR ω (some (.int rr)) μo) args s 0 0 (wA ω)) (F0 m 167 ls [])) {μ : Mem} {H : Heap} {locs : List Loc} {ls : Array Slot} (hH : Hd ω μ H) (hS : FS ω s H locs) (hl : lv_has ls 9 [(0, .ref (wB ω + 0)), (1, .int x1), (2, .int x2), (3, .int x3), (4, .int x4), (5, .int x5), (6, .int x6), (7, .int x7)]) (h : fX12_plan_s81 rec K x1 x6 x3 x4 x5 x7 μ = some (rr, μo)) : W p l e (rmd 9) s m args below meth c H locs 0 0 (MQ below (QR ω (some (.int rr)) μo) args s 0 0 (wA ω)) (F0 m 81 ls []) := by
  have hx := C.1
  have hb := C.2.1
  unfold fX12_plan_s81 at h
  refine lv_iload hx hb dX12_plan_81 (lv_at hl 7 rfl) ?_
  refine lv_iload_n hx hb dX12_plan_83 rfl (lv_at hl 1 rfl) ?_
  refine lv_iload hx hb dX12_plan_84 (lv_at hl 6 rfl) ?_
  refine lv_isub hx hb dX12_plan_86 ?_
  refine lv_icmp_gt (tgt := 167) hx hb dX12_plan_87 (by decide) (fun hc => ?_) (fun hc => ?_)
  · have h := ite_t hc h
    exact hK _ _ _ _ H locs ls hH hS (lv_sub hl [0, 1, 2, 3, 4, 5, 6] rfl) h
  · have h := ite_f hc h
    refine lv_iconst (v := 0) hx hb dX12_plan_90 (by decide) ?_
    refine lv_istore (lv' := [(8, .int 0), (0, .ref (wB ω + 0)), (1, .int x1), (2, .int x2), (3, .int x3), (4, .int x4), (5, .int x5), (6, .int x6), (7, .int x7)]) hx hb dX12_plan_91 hl (by decide) rfl (fun ls hl => ?_)
    refine wX12_plan_l93 hW C hr hk (fun μ18 H locs ls hH hS hl h => ?_) FU _ _ H locs ls hH hS (lv_sub hl [1, 2, 3, 4, 5, 6, 7, 8, 0] rfl) h
    refine lv_aload_n hx hb dX12_plan_120 rfl (lv_at hl 0 rfl) ?_
    refine lv_iload hx hb dX12_plan_121 (lv_at hl 7 rfl) ?_
    obtain ⟨μ20, e19, h⟩ := b1_e h
    refine cVv (as := [.int x7]) (rest := []) (c_X12_burnsShared hW e19) C hl.1 hH hS rfl (jM_0 hW) rfl wd_77 wd_1659 mw_X12_burnsShared wd_1657 rfl (rm_ok (by decide) (by decide)) (Nat.le_of_ble_eq_true rfl) ⟨Nat.zero_le _, Nat.zero_le _⟩ (by decide) dX12_plan_123 (fun H locs hH hS => ?_)
    refine lv_aload_n hx hb dX12_plan_126 rfl (lv_at hl 0 rfl) ?_
    refine lv_iload_n hx hb dX12_plan_127 rfl (lv_at hl 1 rfl) ?_
    refine lv_iload hx hb dX12_plan_128 (lv_at hl 6 rfl) ?_
    refine lv_isub hx hb dX12_plan_130 ?_
    refine lv_iload hx hb dX12_plan_131 (lv_at hl 7 rfl) ?_
    refine lv_isub hx hb dX12_plan_133 ?_
    obtain ⟨μ22, e21, h⟩ := b1_e h
    refine cVv (as := [.int ((x1 - x6) - x7)]) (rest := []) (c_X12_burnsShared hW e21) C hl.1 hH hS rfl (jM_0 hW) rfl wd_77 wd_1659 mw_X12_burnsShared wd_1657 rfl (rm_ok (by decide) (by decide)) (Nat.le_of_ble_eq_true rfl) ⟨Nat.zero_le _, Nat.zero_le _⟩ (by decide) dX12_plan_134 (fun H locs hH hS => ?_)
    refine lv_aload_n hx hb dX12_plan_137 rfl (lv_at hl 0 rfl) ?_
    obtain ⟨r24, e23, h⟩ := b1_e h
    refine cVi (as := []) (rest := []) (c_X12_keptAll hW e23) C hl.1 hH hS rfl (jM_0 hW) rfl wd_78 wd_1663 mw_X12_keptAll wd_1661 rfl (rm_ok (by decide) (by decide)) (Nat.le_of_ble_eq_true rfl) ⟨Nat.zero_le _, Nat.zero_le _⟩ (by decide) dX12_plan_138 (fun H locs hH hS => ?_)
    refine lv_iload_n hx hb dX12_plan_141 rfl (lv_at hl 3 rfl) ?_
    refine lv_icmp_gt (tgt := 148) hx hb dX12_plan_142 (by decide) (fun hc => ?_) (fun hc => ?_)
    · have h := ite_t hc h
      refine lv_aload_n hx hb dX12_plan_148 rfl (lv_at hl 0 rfl) ?_
      obtain ⟨r26, e25, h⟩ := b1_e h
      refine cVi (as := []) (rest := []) (c_X12_keptAll hW e25) C hl.1 hH hS rfl (jM_0 hW) rfl wd_78 wd_1663 mw_X12_keptAll wd_1661 rfl (rm_ok (by decide) (by decide)) (Nat.le_of_ble_eq_true rfl) ⟨Nat.zero_le _, Nat.zero_le _⟩ (by decide) dX12_plan_149 (fun H locs hH hS => ?_)
      refine lv_istore_n (lv' := [(3, .int r26), (0, .ref (wB ω + 0)), (1, .int x1), (2, .int x2), (4, .int x4), (5, .int x5), (6, .int x6), (7, .int x7)]) hx hb dX12_plan_152 rfl hl (by decide) rfl (fun ls hl => ?_)
      refine lv_iload hx hb dX12_plan_153 (lv_at hl 6 rfl) ?_
      refine lv_istore (lv' := [(4, .int x6), (3, .int r26), (0, .ref (wB ω + 0)), (1, .int x1), (2, .int x2), (5, .int x5), (6, .int x6), (7, .int x7)]) hx hb dX12_plan_155 hl (by decide) rfl (fun ls hl => ?_)
      refine lv_iload hx hb dX12_plan_157 (lv_at hl 7 rfl) ?_
      refine lv_istore (lv' := [(5, .int x7), (4, .int x6), (3, .int r26), (0, .ref (wB ω + 0)), (1, .int x1), (2, .int x2), (6, .int x6), (7, .int x7)]) hx hb dX12_plan_159 hl (by decide) rfl (fun ls hl => ?_)
      refine lv_iinc (v := x7 + 1) (lv' := [(7, .int (x7 + 1)), (5, .int x7), (4, .int x6), (3, .int r26), (0, .ref (wB ω + 0)), (1, .int x1), (2, .int x2), (6, .int x6)]) hx hb dX12_plan_161 hl (k := 7) rfl rfl (by decide) rfl (fun ls hl => ?_)
      refine lv_goto (tgt := 81) hx hb dX12_plan_164 (by decide) ?_
      exact hrec _ _ _ _ _ H locs ls hH hS (lv_sub hl [4, 5, 6, 3, 2, 1, 7, 0] rfl) h
    · have h := ite_f hc h
      refine lv_goto (tgt := 161) hx hb dX12_plan_145 (by decide) ?_
      refine lv_iinc (v := x7 + 1) (lv' := [(7, .int (x7 + 1)), (0, .ref (wB ω + 0)), (1, .int x1), (2, .int x2), (3, .int x3), (4, .int x4), (5, .int x5), (6, .int x6)]) hx hb dX12_plan_161 hl (k := 7) rfl rfl (by decide) rfl (fun ls hl => ?_)
      refine lv_goto (tgt := 81) hx hb dX12_plan_164 (by decide) ?_
      exact hrec _ _ _ _ _ H locs ls hH hS (lv_sub hl [1, 2, 3, 4, 5, 6, 7, 0] rfl) h
theorem wX12_plan_l81 (hW : FWM ω) (C : Cx ω p s m args c cX12_plan 9 RX12) (hr : meth.sig.returnType = some .int) (hk : meth.locks = false) {rr : Int32} {μo : Mem} {x1 : Int32} {x6 : Int32} {x2 : Int32} {K : Int32 → Int32 → Int32 → Mem → Option (Int32 × Mem)} (hK : ∀ (z3 : Int32) (z4 : Int32) (z5 : Int32) (ν : Mem) (H : Heap) (locs : List Loc) (ls : Array Slot), Hd ω ν H → FS ω s H locs → lv_has ls 9 [(0, .ref (wB ω + 0)), (1, .int x1), (2, .int x2), (3, .int z3), (4, .int z4), (5, .int z5), (6, .int x6)] → K z3 z4 z5 ν = some (rr, μo) → W p l e (rmd 9) s m args below meth c H locs 0 0 (MQ below (QR ω (some (.int rr)) μo) args s 0 0 (wA ω)) (F0 m 167 ls [])) : ∀ (n : Nat) (x3 : Int32) (x4 : Int32) (x5 : Int32) (x7 : Int32) (μ : Mem) (H : Heap) (locs : List Loc) (ls : Array Slot), Hd ω μ H → FS ω s H locs → lv_has ls 9 [(0, .ref (wB ω + 0)), (1, .int x1), (2, .int x2), (3, .int x3), (4, .int x4), (5, .int x5), (6, .int x6), (7, .int x7)] → fX12_plan_l81 K x1 x6 n x3 x4 x5 x7 μ = some (rr, μo) → W p l e (rmd 9) s m args below meth c H locs 0 0 (MQ below (QR ω (some (.int rr)) μo) args s 0 0 (wA ω)) (F0 m 81 ls []) := by
  intro n
  induction n with
  | zero => intro x3 x4 x5 x7 μ H locs ls hH hS hl h; cases h
  | succ n ih => intro x3 x4 x5 x7 μ H locs ls hH hS hl h; exact wX12_plan_s81 hW C hr hk ih hK hH hS hl h
set_option maxHeartbeats 4000000 in
set_option maxRecDepth 100000 in
theorem wX12_plan_s32 (hW : FWM ω) (C : Cx ω p s m args c cX12_plan 9 RX12) (hr : meth.sig.returnType = some .int) (hk : meth.locks = false) {rr : Int32} {μo : Mem} {x1 : Int32} {x2 : Int32} {x3 : Int32} {x4 : Int32} {x5 : Int32} {x6 : Int32} {rec : Int32 → Int32 → Int32 → Int32 → Mem → Option (Int32 × Mem)} (hrec : ∀ (z3 : Int32) (z4 : Int32) (z5 : Int32) (z6 : Int32) (ν : Mem) (H : Heap) (locs : List Loc) (ls : Array Slot), Hd ω ν H → FS ω s H locs → lv_has ls 9 [(0, .ref (wB ω + 0)), (1, .int x1), (2, .int x2), (3, .int z3), (4, .int z4), (5, .int z5), (6, .int z6)] → rec z3 z4 z5 z6 ν = some (rr, μo) → W p l e (rmd 9) s m args below meth c H locs 0 0 (MQ below (QR ω (some (.int rr)) μo) args s 0 0 (wA ω)) (F0 m 32 ls [])) {K : Int32 → Int32 → Int32 → Mem → Option (Int32 × Mem)} (hK : ∀ (z3 : Int32) (z4 : Int32) (z5 : Int32) (ν : Mem) (H : Heap) (locs : List Loc) (ls : Array Slot), Hd ω ν H → FS ω s H locs → lv_has ls 9 [(2, .int x2), (3, .int z3), (4, .int z4), (5, .int z5)] → K z3 z4 z5 ν = some (rr, μo) → W p l e (rmd 9) s m args below meth c H locs 0 0 (MQ below (QR ω (some (.int rr)) μo) args s 0 0 (wA ω)) (F0 m 173 ls [])) {μ : Mem} {H : Heap} {locs : List Loc} {ls : Array Slot} (hH : Hd ω μ H) (hS : FS ω s H locs) (hl : lv_has ls 9 [(0, .ref (wB ω + 0)), (1, .int x1), (2, .int x2), (3, .int x3), (4, .int x4), (5, .int x5), (6, .int x6)]) (h : fX12_plan_s32 rec K x1 x3 x4 x5 x6 μ = some (rr, μo)) : W p l e (rmd 9) s m args below meth c H locs 0 0 (MQ below (QR ω (some (.int rr)) μo) args s 0 0 (wA ω)) (F0 m 32 ls []) := by
  have hx := C.1
  have hb := C.2.1
  unfold fX12_plan_s32 at h
  refine lv_iload hx hb dX12_plan_32 (lv_at hl 6 rfl) ?_
  refine lv_iload_n hx hb dX12_plan_34 rfl (lv_at hl 1 rfl) ?_
  refine lv_icmp_gt (tgt := 173) hx hb dX12_plan_35 (by decide) (fun hc => ?_) (fun hc => ?_)
  · have h := ite_t hc h
    exact hK _ _ _ _ H locs ls hH hS (lv_sub hl [2, 3, 4, 5] rfl) h
  · have h := ite_f hc h
    refine lv_aload_n hx hb dX12_plan_38 rfl (lv_at hl 0 rfl) ?_
    obtain ⟨μ6, e5, h⟩ := b1_e h
    refine cVv (as := []) (rest := []) (c_X12_copiesStill hW e5) C hl.1 hH hS rfl (jM_0 hW) rfl wd_76 wd_1655 mw_X12_copiesStill wd_1653 rfl (rm_ok (by decide) (by decide)) (Nat.le_of_ble_eq_true rfl) ⟨Nat.zero_le _, Nat.zero_le _⟩ (by decide) dX12_plan_39 (fun H locs hH hS => ?_)
    refine lv_aload_n hx hb dX12_plan_42 rfl (lv_at hl 0 rfl) ?_
    refine lv_iload hx hb dX12_plan_43 (lv_at hl 6 rfl) ?_
    obtain ⟨μ8, e7, h⟩ := b1_e h
    refine cVv (as := [.int x6]) (rest := []) (c_X12_burnsShared hW e7) C hl.1 hH hS rfl (jM_0 hW) rfl wd_77 wd_1659 mw_X12_burnsShared wd_1657 rfl (rm_ok (by decide) (by decide)) (Nat.le_of_ble_eq_true rfl) ⟨Nat.zero_le _, Nat.zero_le _⟩ (by decide) dX12_plan_45 (fun H locs hH hS => ?_)
    refine lv_iconst (v := 0) hx hb dX12_plan_48 (by decide) ?_
    refine lv_istore (lv' := [(7, .int 0), (0, .ref (wB ω + 0)), (1, .int x1), (2, .int x2), (3, .int x3), (4, .int x4), (5, .int x5), (6, .int x6)]) hx hb dX12_plan_49 hl (by decide) rfl (fun ls hl => ?_)
    refine wX12_plan_l51 hW C hr hk (fun μ13 H locs ls hH hS hl h => ?_) FU _ _ H locs ls hH hS (lv_sub hl [1, 2, 3, 4, 5, 6, 7, 0] rfl) h
    refine lv_iconst (v := 0) hx hb dX12_plan_78 (by decide) ?_
    refine lv_istore (lv' := [(7, .int 0), (0, .ref (wB ω + 0)), (1, .int x1), (2, .int x2), (3, .int x3), (4, .int x4), (5, .int x5), (6, .int x6)]) hx hb dX12_plan_79 hl (by decide) rfl (fun ls hl => ?_)
    refine wX12_plan_l81 hW C hr hk (fun y27 y28 y29 μ30 H locs ls hH hS hl h => ?_) FU _ _ _ _ _ H locs ls hH hS (lv_sub hl [1, 2, 3, 4, 5, 6, 7, 0] rfl) h
    refine lv_iinc (v := x6 + 1) (lv' := [(6, .int (x6 + 1)), (0, .ref (wB ω + 0)), (1, .int x1), (2, .int x2), (3, .int y27), (4, .int y28), (5, .int y29)]) hx hb dX12_plan_167 hl (k := 6) rfl rfl (by decide) rfl (fun ls hl => ?_)
    refine lv_goto (tgt := 32) hx hb dX12_plan_170 (by decide) ?_
    exact hrec _ _ _ _ _ H locs ls hH hS (lv_sub hl [1, 2, 3, 4, 5, 6, 0] rfl) h
theorem wX12_plan_l32 (hW : FWM ω) (C : Cx ω p s m args c cX12_plan 9 RX12) (hr : meth.sig.returnType = some .int) (hk : meth.locks = false) {rr : Int32} {μo : Mem} {x1 : Int32} {x2 : Int32} {K : Int32 → Int32 → Int32 → Mem → Option (Int32 × Mem)} (hK : ∀ (z3 : Int32) (z4 : Int32) (z5 : Int32) (ν : Mem) (H : Heap) (locs : List Loc) (ls : Array Slot), Hd ω ν H → FS ω s H locs → lv_has ls 9 [(2, .int x2), (3, .int z3), (4, .int z4), (5, .int z5)] → K z3 z4 z5 ν = some (rr, μo) → W p l e (rmd 9) s m args below meth c H locs 0 0 (MQ below (QR ω (some (.int rr)) μo) args s 0 0 (wA ω)) (F0 m 173 ls [])) : ∀ (n : Nat) (x3 : Int32) (x4 : Int32) (x5 : Int32) (x6 : Int32) (μ : Mem) (H : Heap) (locs : List Loc) (ls : Array Slot), Hd ω μ H → FS ω s H locs → lv_has ls 9 [(0, .ref (wB ω + 0)), (1, .int x1), (2, .int x2), (3, .int x3), (4, .int x4), (5, .int x5), (6, .int x6)] → fX12_plan_l32 K x1 n x3 x4 x5 x6 μ = some (rr, μo) → W p l e (rmd 9) s m args below meth c H locs 0 0 (MQ below (QR ω (some (.int rr)) μo) args s 0 0 (wA ω)) (F0 m 32 ls []) := by
  intro n
  induction n with
  | zero => intro x3 x4 x5 x6 μ H locs ls hH hS hl h; cases h
  | succ n ih => intro x3 x4 x5 x6 μ H locs ls hH hS hl h; exact wX12_plan_s32 hW C hr hk ih hK hH hS hl h
set_option maxHeartbeats 4000000 in
set_option maxRecDepth 100000 in
theorem wX12_plan_e (hW : FWM ω) (C : Cx ω p s m args c cX12_plan 9 RX12) (hr : meth.sig.returnType = some .int) (hk : meth.locks = false) {rr : Int32} {μo : Mem} {x1 : Int32} {x2 : Int32} {μ : Mem} {H : Heap} {locs : List Loc} {ls : Array Slot} (hH : Hd ω μ H) (hS : FS ω s H locs) (hl : lv_has ls 9 [(0, .ref (wB ω + 0)), (1, .int x1), (2, .int x2)]) (h : fX12_plan x1 x2 μ = some (rr, μo)) : W p l e (rmd 9) s m args below meth c H locs 0 0 (MQ below (QR ω (some (.int rr)) μo) args s 0 0 (wA ω)) (F0 m 0 ls []) := by
  have hx := C.1
  have hb := C.2.1
  unfold fX12_plan at h
  refine lv_iload_n hx hb dX12_plan_0 rfl (lv_at hl 1 rfl) ?_
  refine lv_iconst (v := 0) hx hb dX12_plan_1 (by decide) ?_
  refine lv_bipush (v := 10) hx hb dX12_plan_2 (by decide) ?_
  obtain ⟨r2, e1, h⟩ := b1_e h
  refine cSi (as := [.int x1, .int 0, .int 10]) (rest := []) (c_X12_in e1) C hl.1 hH hS rfl wd_1506 mw_X12_in wd_1505 rfl (rm_ok (by decide) (by decide)) (Nat.le_of_ble_eq_true rfl) ⟨Nat.zero_le _, Nat.zero_le _⟩ dX12_plan_4 (fun H locs hH hS => ?_)
  refine lv_if_eq (tgt := 19) hx hb dX12_plan_7 (by decide) (fun hc => ?_) (fun hc => ?_)
  · have h := ite_t hc h
    refine lv_iconst (v := (-1)) hx hb dX12_plan_19 (by decide) ?_
    exact h_iret C hr hk hH hS rfl (by cases h; rfl) dX12_plan_20
  · have h := ite_f hc h
    refine lv_iload_n hx hb dX12_plan_10 rfl (lv_at hl 2 rfl) ?_
    refine lv_iconst (v := 0) hx hb dX12_plan_11 (by decide) ?_
    refine lv_iconst (v := 2) hx hb dX12_plan_12 (by decide) ?_
    obtain ⟨r4, e3, h⟩ := b1_e h
    refine cSi (as := [.int x2, .int 0, .int 2]) (rest := []) (c_X12_in e3) C hl.1 hH hS rfl wd_1506 mw_X12_in wd_1505 rfl (rm_ok (by decide) (by decide)) (Nat.le_of_ble_eq_true rfl) ⟨Nat.zero_le _, Nat.zero_le _⟩ dX12_plan_13 (fun H locs hH hS => ?_)
    refine lv_if_ne (tgt := 21) hx hb dX12_plan_16 (by decide) (fun hc => ?_) (fun hc => ?_)
    · have h := ite_f hc h
      refine lv_iconst (v := (-1)) hx hb dX12_plan_21 (by decide) ?_
      refine lv_istore_n (lv' := [(3, .int (-1)), (0, .ref (wB ω + 0)), (1, .int x1), (2, .int x2)]) hx hb dX12_plan_22 rfl hl (by decide) rfl (fun ls hl => ?_)
      refine lv_iconst (v := 0) hx hb dX12_plan_23 (by decide) ?_
      refine lv_istore (lv' := [(4, .int 0), (3, .int (-1)), (0, .ref (wB ω + 0)), (1, .int x1), (2, .int x2)]) hx hb dX12_plan_24 hl (by decide) rfl (fun ls hl => ?_)
      refine lv_iconst (v := 0) hx hb dX12_plan_26 (by decide) ?_
      refine lv_istore (lv' := [(5, .int 0), (4, .int 0), (3, .int (-1)), (0, .ref (wB ω + 0)), (1, .int x1), (2, .int x2)]) hx hb dX12_plan_27 hl (by decide) rfl (fun ls hl => ?_)
      refine lv_iconst (v := 0) hx hb dX12_plan_29 (by decide) ?_
      refine lv_istore (lv' := [(6, .int 0), (5, .int 0), (4, .int 0), (3, .int (-1)), (0, .ref (wB ω + 0)), (1, .int x1), (2, .int x2)]) hx hb dX12_plan_30 hl (by decide) rfl (fun ls hl => ?_)
      refine wX12_plan_l32 hW C hr hk (fun y31 y32 y33 μ34 H locs ls hH hS hl h => ?_) FU _ _ _ _ _ H locs ls hH hS (lv_sub hl [4, 5, 6, 3, 2, 1, 0] rfl) h
      refine lv_iload_n hx hb dX12_plan_173 rfl (lv_at hl 0 rfl) ?_
      refine lv_if_ne (tgt := 181) hx hb dX12_plan_174 (by decide) (fun hc => ?_) (fun hc => ?_)
      · have h := ite_f hc h
        refine lv_iload_n hx hb dX12_plan_181 rfl (lv_at hl 0 rfl) ?_
        refine lv_iconst (v := 1) hx hb dX12_plan_182 (by decide) ?_
        refine lv_icmp_ne (tgt := 191) hx hb dX12_plan_183 (by decide) (fun hc => ?_) (fun hc => ?_)
        · have h := ite_f hc h
          refine lv_iload hx hb dX12_plan_191 (lv_at hl 3 rfl) ?_
          exact h_iret C hr hk hH hS rfl (by cases h; rfl) dX12_plan_193
        · have h := ite_t hc h
          refine lv_iload hx hb dX12_plan_186 (lv_at hl 2 rfl) ?_
          refine lv_goto (tgt := 193) hx hb dX12_plan_188 (by decide) ?_
          exact h_iret C hr hk hH hS rfl (by cases h; rfl) dX12_plan_193
      · have h := ite_t hc h
        refine lv_iload_n hx hb dX12_plan_177 rfl (lv_at hl 1 rfl) ?_
        refine lv_goto (tgt := 193) hx hb dX12_plan_178 (by decide) ?_
        exact h_iret C hr hk hH hS rfl (by cases h; rfl) dX12_plan_193
    · have h := ite_t hc h
      refine lv_iconst (v := (-1)) hx hb dX12_plan_19 (by decide) ?_
      exact h_iret C hr hk hH hS rfl (by cases h; rfl) dX12_plan_20
theorem c_X12_plan {l : Launch} {ω : WW} {x1 : Int32} {x2 : Int32} (hW : FWM ω) {μ : Mem} {rr : Int32} {μo : Mem} (h : fX12_plan x1 x2 μ = some (rr, μo)) : Con l yX12_plan cX12_plan 9 (some .int) 9 ω [.ref (wB ω + 0), .int x1, .int x2] μ (some (.int rr)) μo :=
  con_of (by decide) (Nat.le_of_ble_eq_true rfl) (fun p e s m args below meth c ls C hr hk hl hH hS => wX12_plan_e hW C hr hk hH hS (lv_sub hl [0, 1, 2] rfl) h)
set_option maxHeartbeats 4000000 in
set_option maxRecDepth 100000 in
theorem wX12_tellHouse_s34 (hW : FWM ω) (C : Cx ω p s m args c cX12_tellHouse 4 RX12) (hr : meth.sig.returnType = none) (hk : meth.locks = false) {μo : Mem} {x1 : Int32} {x2 : Int32} {x3 : Int32} {rec : Int32 → Mem → Option Mem} (hrec : ∀ (z3 : Int32) (ν : Mem) (H : Heap) (locs : List Loc) (ls : Array Slot), Hd ω ν H → FS ω s H locs → lv_has ls 4 [(0, .ref (wB ω + 0)), (1, .int x1), (2, .int x2), (3, .int z3)] → rec z3 ν = some μo → W p l e (rmd 4) s m args below meth c H locs 0 0 (MQ below (QR ω none μo) args s 0 0 (wA ω)) (F0 m 34 ls [])) {K : Mem → Option Mem} (hK : ∀ (ν : Mem) (H : Heap) (locs : List Loc) (ls : Array Slot), Hd ω ν H → FS ω s H locs → lv_has ls 4 [(0, .ref (wB ω + 0)), (1, .int x1), (2, .int x2)] → K ν = some μo → W p l e (rmd 4) s m args below meth c H locs 0 0 (MQ below (QR ω none μo) args s 0 0 (wA ω)) (F0 m 82 ls [])) {μ : Mem} {H : Heap} {locs : List Loc} {ls : Array Slot} (hH : Hd ω μ H) (hS : FS ω s H locs) (hl : lv_has ls 4 [(0, .ref (wB ω + 0)), (1, .int x1), (2, .int x2), (3, .int x3)]) (h : fX12_tellHouse_s34 rec K x2 x3 μ = some μo) : W p l e (rmd 4) s m args below meth c H locs 0 0 (MQ below (QR ω none μo) args s 0 0 (wA ω)) (F0 m 34 ls []) := by
  have hx := C.1
  have hb := C.2.1
  unfold fX12_tellHouse_s34 at h
  refine lv_iload_n hx hb dX12_tellHouse_34 rfl (lv_at hl 3 rfl) ?_
  refine lv_aload_n hx hb dX12_tellHouse_35 rfl (lv_at hl 0 rfl) ?_
  refine g_1208 (i := 9) C hH (jM_0 hW) rfl dX12_tellHouse_36 ?_
  refine lv_aload_n hx hb dX12_tellHouse_39 rfl (lv_at hl 0 rfl) ?_
  refine g_1206 C hH (jM_0 hW) dX12_tellHouse_40 ?_
  obtain ⟨b10, h⟩ := gd_e h
  refine h_iald C hH (jM_9 hW).1 (jM_9 hW).2.1 b10 dX12_tellHouse_43 ?_
  refine lv_icmp_ge (tgt := 82) hx hb dX12_tellHouse_44 (by decide) (fun hc => ?_) (fun hc => ?_)
  · have h := ite_t hc h
    exact hK _ H locs ls hH hS (lv_sub hl [0, 1, 2] rfl) h
  · have h := ite_f hc h
    refine lv_aload_n hx hb dX12_tellHouse_47 rfl (lv_at hl 0 rfl) ?_
    refine g_1200 C hH (jM_0 hW) dX12_tellHouse_48 ?_
    refine lv_if_ne (tgt := 82) hx hb dX12_tellHouse_51 (by decide) (fun hc => ?_) (fun hc => ?_)
    · have h := ite_f hc h
      exact hK _ H locs ls hH hS (lv_sub hl [0, 1, 2] rfl) h
    · have h := ite_t hc h
      refine lv_aload_n hx hb dX12_tellHouse_54 rfl (lv_at hl 0 rfl) ?_
      refine g_1207 (i := 8) C hH (jM_0 hW) rfl dX12_tellHouse_55 ?_
      refine lv_iload_n hx hb dX12_tellHouse_58 rfl (lv_at hl 3 rfl) ?_
      obtain ⟨b11, h⟩ := gd_e h
      refine h_lald C hH (jM_8 hW).1 (jM_8 hW).2.1 b11 dX12_tellHouse_59 ?_
      refine lv_aload_n hx hb dX12_tellHouse_60 rfl (lv_at hl 0 rfl) ?_
      refine g_1195 (i := 6) C hH (jM_0 hW) rfl dX12_tellHouse_61 ?_
      refine lv_iload_n hx hb dX12_tellHouse_64 rfl (lv_at hl 2 rfl) ?_
      obtain ⟨b12, h⟩ := gd_e h
      refine h_lald C hH (jM_6 hW).1 (jM_6 hW).2.1 b12 dX12_tellHouse_65 ?_
      refine W.lcmp hx hb dX12_tellHouse_66 ?_
      refine lv_if_ne (tgt := 76) hx hb dX12_tellHouse_67 (by decide) (fun hc => ?_) (fun hc => ?_)
      · have h := ite_f hc h
        refine lv_iinc (v := x3 + 1) (lv' := [(3, .int (x3 + 1)), (0, .ref (wB ω + 0)), (1, .int x1), (2, .int x2)]) hx hb dX12_tellHouse_76 hl (k := 3) rfl rfl (by decide) rfl (fun ls hl => ?_)
        refine lv_goto (tgt := 34) hx hb dX12_tellHouse_79 (by decide) ?_
        exact hrec _ _ H locs ls hH hS (lv_sub hl [1, 2, 3, 0] rfl) h
      · have h := ite_t hc h
        refine lv_aload_n hx hb dX12_tellHouse_70 rfl (lv_at hl 0 rfl) ?_
        refine lv_iconst (v := 3) hx hb dX12_tellHouse_71 (by decide) ?_
        refine lv_iload_n hx hb dX12_tellHouse_72 rfl (lv_at hl 2 rfl) ?_
        obtain ⟨μ14, e13, h⟩ := b1_e h
        refine cVv (as := [.int 3, .int x2]) (rest := []) (c_X12_wrong hW e13) C hl.1 hH hS rfl (jM_0 hW) rfl wd_44 wd_1459 mw_X12_wrong wd_1457 rfl (rm_ok (by decide) (by decide)) (Nat.le_of_ble_eq_true rfl) ⟨Nat.zero_le _, Nat.zero_le _⟩ (by decide) dX12_tellHouse_73 (fun H locs hH hS => ?_)
        refine lv_iinc (v := x3 + 1) (lv' := [(3, .int (x3 + 1)), (0, .ref (wB ω + 0)), (1, .int x1), (2, .int x2)]) hx hb dX12_tellHouse_76 hl (k := 3) rfl rfl (by decide) rfl (fun ls hl => ?_)
        refine lv_goto (tgt := 34) hx hb dX12_tellHouse_79 (by decide) ?_
        exact hrec _ _ H locs ls hH hS (lv_sub hl [1, 2, 3, 0] rfl) h
theorem wX12_tellHouse_l34 (hW : FWM ω) (C : Cx ω p s m args c cX12_tellHouse 4 RX12) (hr : meth.sig.returnType = none) (hk : meth.locks = false) {μo : Mem} {x2 : Int32} {x1 : Int32} {K : Mem → Option Mem} (hK : ∀ (ν : Mem) (H : Heap) (locs : List Loc) (ls : Array Slot), Hd ω ν H → FS ω s H locs → lv_has ls 4 [(0, .ref (wB ω + 0)), (1, .int x1), (2, .int x2)] → K ν = some μo → W p l e (rmd 4) s m args below meth c H locs 0 0 (MQ below (QR ω none μo) args s 0 0 (wA ω)) (F0 m 82 ls [])) : ∀ (n : Nat) (x3 : Int32) (μ : Mem) (H : Heap) (locs : List Loc) (ls : Array Slot), Hd ω μ H → FS ω s H locs → lv_has ls 4 [(0, .ref (wB ω + 0)), (1, .int x1), (2, .int x2), (3, .int x3)] → fX12_tellHouse_l34 K x2 n x3 μ = some μo → W p l e (rmd 4) s m args below meth c H locs 0 0 (MQ below (QR ω none μo) args s 0 0 (wA ω)) (F0 m 34 ls []) := by
  intro n
  induction n with
  | zero => intro x3 μ H locs ls hH hS hl h; cases h
  | succ n ih => intro x3 μ H locs ls hH hS hl h; exact wX12_tellHouse_s34 hW C hr hk ih hK hH hS hl h
set_option maxHeartbeats 4000000 in
set_option maxRecDepth 100000 in
theorem wX12_tellHouse_b82 (hW : FWM ω) (C : Cx ω p s m args c cX12_tellHouse 4 RX12) (hr : meth.sig.returnType = none) (hk : meth.locks = false) {μo : Mem} {x1 : Int32} {x2 : Int32} {μ : Mem} {H : Heap} {locs : List Loc} {ls : Array Slot} (hH : Hd ω μ H) (hS : FS ω s H locs) (hl : lv_has ls 4 [(0, .ref (wB ω + 0)), (1, .int x1), (2, .int x2)]) (h : fX12_tellHouse_b82 x1 x2 μ = some μo) : W p l e (rmd 4) s m args below meth c H locs 0 0 (MQ below (QR ω none μo) args s 0 0 (wA ω)) (F0 m 82 ls []) := by
  have hx := C.1
  have hb := C.2.1
  unfold fX12_tellHouse_b82 at h
  refine lv_aload_n hx hb dX12_tellHouse_82 rfl (lv_at hl 0 rfl) ?_
  refine g_1209 (i := 10) C hH (jM_0 hW) rfl dX12_tellHouse_83 ?_
  refine lv_iload_n hx hb dX12_tellHouse_86 rfl (lv_at hl 1 rfl) ?_
  refine lv_aload_n hx hb dX12_tellHouse_87 rfl (lv_at hl 0 rfl) ?_
  refine lv_iconst (v := 1) hx hb dX12_tellHouse_88 (by decide) ?_
  refine lv_bipush (v := 20) hx hb dX12_tellHouse_89 (by decide) ?_
  obtain ⟨r18, μ17, e16, h⟩ := b2_e h
  refine cVi (as := [.int 1, .int 20]) (rest := [.int x1, .ref (wB ω + 10)]) (c_X12_bounded hW e16) C hl.1 hH hS rfl (jM_0 hW) rfl wd_45 wd_1463 mw_X12_bounded wd_1461 rfl (rm_ok (by decide) (by decide)) (Nat.le_of_ble_eq_true rfl) ⟨Nat.zero_le _, Nat.zero_le _⟩ (by decide) dX12_tellHouse_91 (fun H locs hH hS => ?_)
  obtain ⟨b19, h⟩ := gd_e h
  obtain ⟨μ20, e21, h⟩ := bd_e h
  refine h_iast C hH hS (jM_10 hW).1 (jM_10 hW).2.1 b19 dX12_tellHouse_94 (fun H locs hH hS => ?_)
  have hH := Hd.to e21 hH
  refine lv_aload_n hx hb dX12_tellHouse_95 rfl (lv_at hl 0 rfl) ?_
  refine g_1210 (i := 11) C hH (jM_0 hW) rfl dX12_tellHouse_96 ?_
  refine lv_iload_n hx hb dX12_tellHouse_99 rfl (lv_at hl 1 rfl) ?_
  refine lv_aload_n hx hb dX12_tellHouse_100 rfl (lv_at hl 0 rfl) ?_
  refine lv_iconst (v := 0) hx hb dX12_tellHouse_101 (by decide) ?_
  refine lv_bipush (v := 99) hx hb dX12_tellHouse_102 (by decide) ?_
  obtain ⟨r24, μ23, e22, h⟩ := b2_e h
  refine cVi (as := [.int 0, .int 99]) (rest := [.int x1, .ref (wB ω + 11)]) (c_X12_bounded hW e22) C hl.1 hH hS rfl (jM_0 hW) rfl wd_45 wd_1463 mw_X12_bounded wd_1461 rfl (rm_ok (by decide) (by decide)) (Nat.le_of_ble_eq_true rfl) ⟨Nat.zero_le _, Nat.zero_le _⟩ (by decide) dX12_tellHouse_104 (fun H locs hH hS => ?_)
  obtain ⟨b25, h⟩ := gd_e h
  obtain ⟨μ26, e27, h⟩ := bd_e h
  refine h_iast C hH hS (jM_11 hW).1 (jM_11 hW).2.1 b25 dX12_tellHouse_107 (fun H locs hH hS => ?_)
  have hH := Hd.to e27 hH
  refine lv_aload_n hx hb dX12_tellHouse_108 rfl (lv_at hl 0 rfl) ?_
  refine g_1211 (i := 12) C hH (jM_0 hW) rfl dX12_tellHouse_109 ?_
  refine lv_iload_n hx hb dX12_tellHouse_112 rfl (lv_at hl 1 rfl) ?_
  refine lv_aload_n hx hb dX12_tellHouse_113 rfl (lv_at hl 0 rfl) ?_
  refine lv_iconst (v := 0) hx hb dX12_tellHouse_114 (by decide) ?_
  refine lv_sipush (v := 999) hx hb dX12_tellHouse_115 (by decide) ?_
  obtain ⟨r30, μ29, e28, h⟩ := b2_e h
  refine cVi (as := [.int 0, .int 999]) (rest := [.int x1, .ref (wB ω + 12)]) (c_X12_bounded hW e28) C hl.1 hH hS rfl (jM_0 hW) rfl wd_45 wd_1463 mw_X12_bounded wd_1461 rfl (rm_ok (by decide) (by decide)) (Nat.le_of_ble_eq_true rfl) ⟨Nat.zero_le _, Nat.zero_le _⟩ (by decide) dX12_tellHouse_118 (fun H locs hH hS => ?_)
  obtain ⟨b31, h⟩ := gd_e h
  obtain ⟨μ32, e33, h⟩ := bd_e h
  refine h_iast C hH hS (jM_12 hW).1 (jM_12 hW).2.1 b31 dX12_tellHouse_121 (fun H locs hH hS => ?_)
  have hH := Hd.to e33 hH
  refine lv_aload_n hx hb dX12_tellHouse_122 rfl (lv_at hl 0 rfl) ?_
  refine g_1212 (i := 13) C hH (jM_0 hW) rfl dX12_tellHouse_123 ?_
  refine lv_iload_n hx hb dX12_tellHouse_126 rfl (lv_at hl 1 rfl) ?_
  refine lv_aload_n hx hb dX12_tellHouse_127 rfl (lv_at hl 0 rfl) ?_
  refine lv_iconst (v := 0) hx hb dX12_tellHouse_128 (by decide) ?_
  refine lv_bipush (v := 99) hx hb dX12_tellHouse_129 (by decide) ?_
  obtain ⟨r36, μ35, e34, h⟩ := b2_e h
  refine cVi (as := [.int 0, .int 99]) (rest := [.int x1, .ref (wB ω + 13)]) (c_X12_bounded hW e34) C hl.1 hH hS rfl (jM_0 hW) rfl wd_45 wd_1463 mw_X12_bounded wd_1461 rfl (rm_ok (by decide) (by decide)) (Nat.le_of_ble_eq_true rfl) ⟨Nat.zero_le _, Nat.zero_le _⟩ (by decide) dX12_tellHouse_131 (fun H locs hH hS => ?_)
  obtain ⟨b37, h⟩ := gd_e h
  obtain ⟨μ38, e39, h⟩ := bd_e h
  refine h_iast C hH hS (jM_13 hW).1 (jM_13 hW).2.1 b37 dX12_tellHouse_134 (fun H locs hH hS => ?_)
  have hH := Hd.to e39 hH
  refine lv_aload_n hx hb dX12_tellHouse_135 rfl (lv_at hl 0 rfl) ?_
  refine g_1213 (i := 14) C hH (jM_0 hW) rfl dX12_tellHouse_136 ?_
  refine lv_iload_n hx hb dX12_tellHouse_139 rfl (lv_at hl 1 rfl) ?_
  refine lv_aload_n hx hb dX12_tellHouse_140 rfl (lv_at hl 0 rfl) ?_
  refine lv_iconst (v := 0) hx hb dX12_tellHouse_141 (by decide) ?_
  refine lv_bipush (v := 99) hx hb dX12_tellHouse_142 (by decide) ?_
  obtain ⟨r42, μ41, e40, h⟩ := b2_e h
  refine cVi (as := [.int 0, .int 99]) (rest := [.int x1, .ref (wB ω + 14)]) (c_X12_bounded hW e40) C hl.1 hH hS rfl (jM_0 hW) rfl wd_45 wd_1463 mw_X12_bounded wd_1461 rfl (rm_ok (by decide) (by decide)) (Nat.le_of_ble_eq_true rfl) ⟨Nat.zero_le _, Nat.zero_le _⟩ (by decide) dX12_tellHouse_144 (fun H locs hH hS => ?_)
  obtain ⟨b43, h⟩ := gd_e h
  obtain ⟨μ44, e45, h⟩ := bd_e h
  refine h_iast C hH hS (jM_14 hW).1 (jM_14 hW).2.1 b43 dX12_tellHouse_147 (fun H locs hH hS => ?_)
  have hH := Hd.to e45 hH
  refine lv_aload_n hx hb dX12_tellHouse_148 rfl (lv_at hl 0 rfl) ?_
  refine lv_iconst (v := 4) hx hb dX12_tellHouse_149 (by decide) ?_
  obtain ⟨μ47, e46, h⟩ := b1_e h
  refine cVv (as := [.int 4]) (rest := []) (c_X12_must hW e46) C hl.1 hH hS rfl (jM_0 hW) rfl wd_43 wd_1455 mw_X12_must wd_1453 rfl (rm_ok (by decide) (by decide)) (Nat.le_of_ble_eq_true rfl) ⟨Nat.zero_le _, Nat.zero_le _⟩ (by decide) dX12_tellHouse_150 (fun H locs hH hS => ?_)
  refine lv_aload_n hx hb dX12_tellHouse_153 rfl (lv_at hl 0 rfl) ?_
  refine g_1200 C hH (jM_0 hW) dX12_tellHouse_154 ?_
  refine lv_if_le (tgt := 161) hx hb dX12_tellHouse_157 (by decide) (fun hc => ?_) (fun hc => ?_)
  · have h := ite_t hc h
    refine lv_aload_n hx hb dX12_tellHouse_161 rfl (lv_at hl 0 rfl) ?_
    refine g_1207 (i := 8) C hH (jM_0 hW) rfl dX12_tellHouse_162 ?_
    refine lv_aload_n hx hb dX12_tellHouse_165 rfl (lv_at hl 0 rfl) ?_
    refine g_1208 (i := 9) C hH (jM_0 hW) rfl dX12_tellHouse_166 ?_
    refine lv_aload_n hx hb dX12_tellHouse_169 rfl (lv_at hl 0 rfl) ?_
    refine g_1206 C hH (jM_0 hW) dX12_tellHouse_170 ?_
    obtain ⟨b48, h⟩ := gd_e h
    refine h_iald C hH (jM_9 hW).1 (jM_9 hW).2.1 b48 dX12_tellHouse_173 ?_
    refine lv_aload_n hx hb dX12_tellHouse_174 rfl (lv_at hl 0 rfl) ?_
    refine g_1195 (i := 6) C hH (jM_0 hW) rfl dX12_tellHouse_175 ?_
    refine lv_iload_n hx hb dX12_tellHouse_178 rfl (lv_at hl 2 rfl) ?_
    obtain ⟨b49, h⟩ := gd_e h
    refine h_lald C hH (jM_6 hW).1 (jM_6 hW).2.1 b49 dX12_tellHouse_179 ?_
    obtain ⟨b50, h⟩ := gd_e h
    obtain ⟨μ51, e52, h⟩ := bd_e h
    refine h_last C hH hS (jM_8 hW).1 (jM_8 hW).2.1 b50 dX12_tellHouse_180 (fun H locs hH hS => ?_)
    have hH := Hd.to e52 hH
    refine lv_aload_n hx hb dX12_tellHouse_181 rfl (lv_at hl 0 rfl) ?_
    refine g_1208 (i := 9) C hH (jM_0 hW) rfl dX12_tellHouse_182 ?_
    refine lv_aload_n hx hb dX12_tellHouse_185 rfl (lv_at hl 0 rfl) ?_
    refine g_1206 C hH (jM_0 hW) dX12_tellHouse_186 ?_
    refine lv_dup2_11 hx hb dX12_tellHouse_189 rfl rfl ?_
    obtain ⟨b53, h⟩ := gd_e h
    refine h_iald C hH (jM_9 hW).1 (jM_9 hW).2.1 b53 dX12_tellHouse_190 ?_
    refine lv_iconst (v := 1) hx hb dX12_tellHouse_191 (by decide) ?_
    refine lv_iadd hx hb dX12_tellHouse_192 ?_
    obtain ⟨b54, h⟩ := gd_e h
    obtain ⟨μ55, e56, h⟩ := bd_e h
    refine h_iast C hH hS (jM_9 hW).1 (jM_9 hW).2.1 b54 dX12_tellHouse_193 (fun H locs hH hS => ?_)
    have hH := Hd.to e56 hH
    exact h_vret C hr hk hH hS (by cases h; rfl) dX12_tellHouse_194
  · have h := ite_f hc h
    exact h_vret C hr hk hH hS (by cases h; rfl) dX12_tellHouse_160
set_option maxHeartbeats 4000000 in
set_option maxRecDepth 100000 in
theorem wX12_tellHouse_e (hW : FWM ω) (C : Cx ω p s m args c cX12_tellHouse 4 RX12) (hr : meth.sig.returnType = none) (hk : meth.locks = false) {μo : Mem} {μ : Mem} {H : Heap} {locs : List Loc} {ls : Array Slot} (hH : Hd ω μ H) (hS : FS ω s H locs) (hl : lv_has ls 4 [(0, .ref (wB ω + 0))]) (h : fX12_tellHouse μ = some μo) : W p l e (rmd 4) s m args below meth c H locs 0 0 (MQ below (QR ω none μo) args s 0 0 (wA ω)) (F0 m 0 ls []) := by
  have hx := C.1
  have hb := C.2.1
  unfold fX12_tellHouse at h
  refine lv_aload_n hx hb dX12_tellHouse_0 rfl (lv_at hl 0 rfl) ?_
  obtain ⟨μ2, e1, h⟩ := b1_e h
  refine cVv (as := []) (rest := []) (c_X12_goesOn hW e1) C hl.1 hH hS rfl (jM_0 hW) rfl wd_42 wd_1451 mw_X12_goesOn wd_1449 rfl (rm_ok (by decide) (by decide)) (Nat.le_of_ble_eq_true rfl) ⟨Nat.zero_le _, Nat.zero_le _⟩ (by decide) dX12_tellHouse_1 (fun H locs hH hS => ?_)
  refine lv_bipush (v := 6) hx hb dX12_tellHouse_4 (by decide) ?_
  refine lv_aload_n hx hb dX12_tellHouse_6 rfl (lv_at hl 0 rfl) ?_
  refine g_1206 C hH (jM_0 hW) dX12_tellHouse_7 ?_
  refine lv_imul hx hb dX12_tellHouse_10 ?_
  refine lv_aload_n hx hb dX12_tellHouse_11 rfl (lv_at hl 0 rfl) ?_
  refine g_1208 (i := 9) C hH (jM_0 hW) rfl dX12_tellHouse_12 ?_
  refine lv_aload_n hx hb dX12_tellHouse_15 rfl (lv_at hl 0 rfl) ?_
  refine g_1206 C hH (jM_0 hW) dX12_tellHouse_16 ?_
  obtain ⟨b3, h⟩ := gd_e h
  refine h_iald C hH (jM_9 hW).1 (jM_9 hW).2.1 b3 dX12_tellHouse_19 ?_
  refine lv_iadd hx hb dX12_tellHouse_20 ?_
  obtain ⟨y4, e5, h⟩ := bd_e h
  refine h_topi e5 ?_
  refine lv_istore_n (lv' := [(1, .int y4), (0, .ref (wB ω + 0))]) hx hb dX12_tellHouse_21 rfl hl (by decide) rfl (fun ls hl => ?_)
  refine lv_aload_n hx hb dX12_tellHouse_22 rfl (lv_at hl 1 rfl) ?_
  refine g_1198 C hH (jM_0 hW) dX12_tellHouse_23 ?_
  obtain ⟨y6, e7, h⟩ := bd_e h
  refine h_topi e7 ?_
  refine lv_istore_n (lv' := [(2, .int y6), (1, .int y4), (0, .ref (wB ω + 0))]) hx hb dX12_tellHouse_26 rfl hl (by decide) rfl (fun ls hl => ?_)
  refine lv_aload_n hx hb dX12_tellHouse_27 rfl (lv_at hl 2 rfl) ?_
  refine lv_iconst (v := 1) hx hb dX12_tellHouse_28 (by decide) ?_
  obtain ⟨μ9, e8, h⟩ := b1_e h
  refine cVv (as := [.int 1]) (rest := []) (c_X12_must hW e8) C hl.1 hH hS rfl (jM_0 hW) rfl wd_43 wd_1455 mw_X12_must wd_1453 rfl (rm_ok (by decide) (by decide)) (Nat.le_of_ble_eq_true rfl) ⟨Nat.zero_le _, Nat.zero_le _⟩ (by decide) dX12_tellHouse_29 (fun H locs hH hS => ?_)
  refine lv_iconst (v := 0) hx hb dX12_tellHouse_32 (by decide) ?_
  refine lv_istore_n (lv' := [(3, .int 0), (2, .int y6), (1, .int y4), (0, .ref (wB ω + 0))]) hx hb dX12_tellHouse_33 rfl hl (by decide) rfl (fun ls hl => ?_)
  refine wX12_tellHouse_l34 hW C hr hk (fun μ15 H locs ls hH hS hl h => ?_) FU _ _ H locs ls hH hS (lv_sub hl [3, 2, 1, 0] rfl) h
  exact wX12_tellHouse_b82 hW C hr hk hH hS hl h
theorem c_X12_tellHouse {l : Launch} {ω : WW} (hW : FWM ω) {μ : Mem} {μo : Mem} (h : fX12_tellHouse μ = some μo) : Con l yX12_tellHouse cX12_tellHouse 4 none 4 ω [.ref (wB ω + 0)] μ none μo :=
  con_of (by decide) (Nat.le_of_ble_eq_true rfl) (fun p e s m args below meth c ls C hr hk hl hH hS => wX12_tellHouse_e hW C hr hk hH hS (lv_sub hl [0] rfl) h)
set_option maxHeartbeats 4000000 in
set_option maxRecDepth 100000 in
theorem wX12_toldInt_e (hW : FWM ω) (C : Cx ω p s m args c cX12_toldInt 4 RX12) (hr : meth.sig.returnType = some .int) (hk : meth.locks = false) {rr : Int32} {μo : Mem} {x1 : Int32} {x2 : Int32} {μ : Mem} {H : Heap} {locs : List Loc} {ls : Array Slot} (hH : Hd ω μ H) (hS : FS ω s H locs) (hl : lv_has ls 4 [(0, .ref (wB ω + 0)), (1, .int x1), (2, .int x2)]) (h : fX12_toldInt x1 x2 μ = some (rr, μo)) : W p l e (rmd 4) s m args below meth c H locs 0 0 (MQ below (QR ω (some (.int rr)) μo) args s 0 0 (wA ω)) (F0 m 0 ls []) := by
  have hx := C.1
  have hb := C.2.1
  unfold fX12_toldInt at h
  refine lv_aload_n hx hb dX12_toldInt_0 rfl (lv_at hl 0 rfl) ?_
  obtain ⟨μ2, e1, h⟩ := b1_e h
  refine cVv (as := []) (rest := []) (c_X12_goesOn hW e1) C hl.1 hH hS rfl (jM_0 hW) rfl wd_42 wd_1451 mw_X12_goesOn wd_1449 rfl (rm_ok (by decide) (by decide)) (Nat.le_of_ble_eq_true rfl) ⟨Nat.zero_le _, Nat.zero_le _⟩ (by decide) dX12_toldInt_1 (fun H locs hH hS => ?_)
  refine lv_aload_n hx hb dX12_toldInt_4 rfl (lv_at hl 0 rfl) ?_
  refine lv_iload_n hx hb dX12_toldInt_5 rfl (lv_at hl 1 rfl) ?_
  refine lv_iload_n hx hb dX12_toldInt_6 rfl (lv_at hl 2 rfl) ?_
  obtain ⟨r5, μ4, e3, h⟩ := b2_e h
  refine cVi (as := [.int x1, .int x2]) (rest := []) (c_X12_bounded hW e3) C hl.1 hH hS rfl (jM_0 hW) rfl wd_45 wd_1463 mw_X12_bounded wd_1461 rfl (rm_ok (by decide) (by decide)) (Nat.le_of_ble_eq_true rfl) ⟨Nat.zero_le _, Nat.zero_le _⟩ (by decide) dX12_toldInt_7 (fun H locs hH hS => ?_)
  refine lv_istore_n (lv' := [(3, .int r5), (0, .ref (wB ω + 0)), (1, .int x1), (2, .int x2)]) hx hb dX12_toldInt_10 rfl hl (by decide) rfl (fun ls hl => ?_)
  refine lv_aload_n hx hb dX12_toldInt_11 rfl (lv_at hl 1 rfl) ?_
  refine lv_iconst (v := 4) hx hb dX12_toldInt_12 (by decide) ?_
  obtain ⟨μ7, e6, h⟩ := b1_e h
  refine cVv (as := [.int 4]) (rest := []) (c_X12_must hW e6) C hl.1 hH hS rfl (jM_0 hW) rfl wd_43 wd_1455 mw_X12_must wd_1453 rfl (rm_ok (by decide) (by decide)) (Nat.le_of_ble_eq_true rfl) ⟨Nat.zero_le _, Nat.zero_le _⟩ (by decide) dX12_toldInt_13 (fun H locs hH hS => ?_)
  refine lv_iload_n hx hb dX12_toldInt_16 rfl (lv_at hl 0 rfl) ?_
  exact h_iret C hr hk hH hS rfl (by cases h; rfl) dX12_toldInt_17
theorem c_X12_toldInt {l : Launch} {ω : WW} {x1 : Int32} {x2 : Int32} (hW : FWM ω) {μ : Mem} {rr : Int32} {μo : Mem} (h : fX12_toldInt x1 x2 μ = some (rr, μo)) : Con l yX12_toldInt cX12_toldInt 4 (some .int) 4 ω [.ref (wB ω + 0), .int x1, .int x2] μ (some (.int rr)) μo :=
  con_of (by decide) (Nat.le_of_ble_eq_true rfl) (fun p e s m args below meth c ls C hr hk hl hH hS => wX12_toldInt_e hW C hr hk hH hS (lv_sub hl [0, 1, 2] rfl) h)
set_option maxHeartbeats 4000000 in
set_option maxRecDepth 100000 in
theorem wX12_term_b24 (hW : FWM ω) (C : Cx ω p s m args c cX12_term 1 RX12) (hr : meth.sig.returnType = none) (hk : meth.locks = false) {μo : Mem} {μ : Mem} {H : Heap} {locs : List Loc} {ls : Array Slot} (hH : Hd ω μ H) (hS : FS ω s H locs) (hl : lv_has ls 1 [(0, .ref (wB ω + 0))]) (h : fX12_term_b24 μ = some μo) : W p l e (rmd 5) s m args below meth c H locs 0 0 (MQ below (QR ω none μo) args s 0 0 (wA ω)) (F0 m 24 ls []) := by
  have hx := C.1
  have hb := C.2.1
  unfold fX12_term_b24 at h
  refine lv_aload_n hx hb dX12_term_24 rfl (lv_at hl 0 rfl) ?_
  refine g_1225 (i := 25) C hH (jM_0 hW) rfl dX12_term_25 ?_
  refine lv_aload_n hx hb dX12_term_28 rfl (lv_at hl 0 rfl) ?_
  refine g_1220 C hH (jM_0 hW) dX12_term_29 ?_
  refine lv_aload_n hx hb dX12_term_32 rfl (lv_at hl 0 rfl) ?_
  refine g_1226 C hH (jM_0 hW) dX12_term_33 ?_
  obtain ⟨b4, h⟩ := gd_e h
  obtain ⟨μ5, e6, h⟩ := bd_e h
  refine h_iast C hH hS (jM_25 hW).1 (jM_25 hW).2.1 b4 dX12_term_36 (fun H locs hH hS => ?_)
  have hH := Hd.to e6 hH
  refine lv_aload_n hx hb dX12_term_37 rfl (lv_at hl 0 rfl) ?_
  refine lv_dup hx hb dX12_term_38 rfl ?_
  refine g_1220 C hH (jM_0 hW) dX12_term_39 ?_
  refine lv_iconst (v := 1) hx hb dX12_term_42 (by decide) ?_
  refine lv_iadd hx hb dX12_term_43 ?_
  obtain ⟨μ7, e8, h⟩ := bd_e h
  refine p_1220 C hH hS (jM_0 hW) dX12_term_44 (fun H locs hH hS => ?_)
  have hH := Hd.to e8 hH
  exact h_vret C hr hk hH hS (by cases h; rfl) dX12_term_47
set_option maxHeartbeats 4000000 in
set_option maxRecDepth 100000 in
theorem wX12_term_e (hW : FWM ω) (C : Cx ω p s m args c cX12_term 1 RX12) (hr : meth.sig.returnType = none) (hk : meth.locks = false) {μo : Mem} {μ : Mem} {H : Heap} {locs : List Loc} {ls : Array Slot} (hH : Hd ω μ H) (hS : FS ω s H locs) (hl : lv_has ls 1 [(0, .ref (wB ω + 0))]) (h : fX12_term μ = some μo) : W p l e (rmd 5) s m args below meth c H locs 0 0 (MQ below (QR ω none μo) args s 0 0 (wA ω)) (F0 m 0 ls []) := by
  have hx := C.1
  have hb := C.2.1
  unfold fX12_term at h
  refine lv_aload_n hx hb dX12_term_0 rfl (lv_at hl 0 rfl) ?_
  refine g_1224 (i := 24) C hH (jM_0 hW) rfl dX12_term_1 ?_
  refine lv_aload_n hx hb dX12_term_4 rfl (lv_at hl 0 rfl) ?_
  refine g_1220 C hH (jM_0 hW) dX12_term_5 ?_
  refine lv_aload_n hx hb dX12_term_8 rfl (lv_at hl 0 rfl) ?_
  refine g_1226 C hH (jM_0 hW) dX12_term_9 ?_
  obtain ⟨b1, h⟩ := gd_e h
  obtain ⟨μ2, e3, h⟩ := bd_e h
  refine h_iast C hH hS (jM_24 hW).1 (jM_24 hW).2.1 b1 dX12_term_12 (fun H locs hH hS => ?_)
  have hH := Hd.to e3 hH
  refine lv_aload_n hx hb dX12_term_13 rfl (lv_at hl 0 rfl) ?_
  refine g_1200 C hH (jM_0 hW) dX12_term_14 ?_
  refine lv_if_ne (tgt := 24) hx hb dX12_term_17 (by decide) (fun hc => ?_) (fun hc => ?_)
  · have h := ite_f hc h
    exact wX12_term_b24 hW C hr hk hH hS hl h
  · have h := ite_t hc h
    refine lv_aload_n hx hb dX12_term_20 rfl (lv_at hl 0 rfl) ?_
    obtain ⟨μ10, e9, h⟩ := b1_e h
    refine cVv (as := []) (rest := []) (c_X12_expression hW e9) C hl.1 hH hS rfl (jM_0 hW) rfl wd_48 wd_1475 mw_X12_expression wd_1473 rfl (rm_ok (by decide) (by decide)) (Nat.le_of_ble_eq_true rfl) ⟨Nat.zero_le _, Nat.zero_le _⟩ (by decide) dX12_term_21 (fun H locs hH hS => ?_)
    exact wX12_term_b24 hW C hr hk hH hS hl h
theorem c_X12_term {l : Launch} {ω : WW} (hW : FWM ω) {μ : Mem} {μo : Mem} (h : fX12_term μ = some μo) : Con l yX12_term cX12_term 1 none 5 ω [.ref (wB ω + 0)] μ none μo :=
  con_of (by decide) (Nat.le_of_ble_eq_true rfl) (fun p e s m args below meth c ls C hr hk hl hH hS => wX12_term_e hW C hr hk hH hS (lv_sub hl [0] rfl) h)
set_option maxHeartbeats 4000000 in
set_option maxRecDepth 100000 in
theorem wX12_tellLaw_b110 (hW : FWM ω) (C : Cx ω p s m args c cX12_tellLaw 4 RX12) (hr : meth.sig.returnType = none) (hk : meth.locks = false) {μo : Mem} {x1 : Int32} {x2 : Int32} {x3 : Int32} {rec : Int32 → Mem → Option Mem} (hrec : ∀ (z3 : Int32) (ν : Mem) (H : Heap) (locs : List Loc) (ls : Array Slot), Hd ω ν H → FS ω s H locs → lv_has ls 4 [(0, .ref (wB ω + 0)), (1, .int x1), (2, .int x2), (3, .int z3)] → rec z3 ν = some μo → W p l e (rmd 6) s m args below meth c H locs 0 0 (MQ below (QR ω none μo) args s 0 0 (wA ω)) (F0 m 12 ls [])) {K : Mem → Option Mem} (hK : ∀ (ν : Mem) (H : Heap) (locs : List Loc) (ls : Array Slot), Hd ω ν H → FS ω s H locs → lv_has ls 4 [(0, .ref (wB ω + 0)), (1, .int x1), (2, .int x2)] → K ν = some μo → W p l e (rmd 6) s m args below meth c H locs 0 0 (MQ below (QR ω none μo) args s 0 0 (wA ω)) (F0 m 129 ls [])) {μ : Mem} {H : Heap} {locs : List Loc} {ls : Array Slot} (hH : Hd ω μ H) (hS : FS ω s H locs) (hl : lv_has ls 4 [(0, .ref (wB ω + 0)), (1, .int x1), (2, .int x2), (3, .int x3)]) (h : fX12_tellLaw_b110 rec K x3 μ = some μo) : W p l e (rmd 6) s m args below meth c H locs 0 0 (MQ below (QR ω none μo) args s 0 0 (wA ω)) (F0 m 110 ls []) := by
  have hx := C.1
  have hb := C.2.1
  unfold fX12_tellLaw_b110 at h
  refine lv_aload_n hx hb dX12_tellLaw_110 rfl (lv_at hl 0 rfl) ?_
  refine lv_bipush (v := 30) hx hb dX12_tellLaw_111 (by decide) ?_
  obtain ⟨μ23, e22, h⟩ := b1_e h
  refine cVv (as := [.int 30]) (rest := []) (c_X12_must hW e22) C hl.1 hH hS rfl (jM_0 hW) rfl wd_43 wd_1455 mw_X12_must wd_1453 rfl (rm_ok (by decide) (by decide)) (Nat.le_of_ble_eq_true rfl) ⟨Nat.zero_le _, Nat.zero_le _⟩ (by decide) dX12_tellLaw_113 (fun H locs hH hS => ?_)
  refine lv_aload_n hx hb dX12_tellLaw_116 rfl (lv_at hl 0 rfl) ?_
  obtain ⟨μ25, e24, h⟩ := b1_e h
  refine cVv (as := []) (rest := []) (c_X12_term hW e24) C hl.1 hH hS rfl (jM_0 hW) rfl wd_52 wd_1491 mw_X12_term wd_1489 rfl (rm_ok (by decide) (by decide)) (Nat.le_of_ble_eq_true rfl) ⟨Nat.zero_le _, Nat.zero_le _⟩ (by decide) dX12_tellLaw_117 (fun H locs hH hS => ?_)
  refine lv_aload_n hx hb dX12_tellLaw_120 rfl (lv_at hl 0 rfl) ?_
  refine lv_bipush (v := 31) hx hb dX12_tellLaw_121 (by decide) ?_
  obtain ⟨μ27, e26, h⟩ := b1_e h
  refine cVv (as := [.int 31]) (rest := []) (c_X12_must hW e26) C hl.1 hH hS rfl (jM_0 hW) rfl wd_43 wd_1455 mw_X12_must wd_1453 rfl (rm_ok (by decide) (by decide)) (Nat.le_of_ble_eq_true rfl) ⟨Nat.zero_le _, Nat.zero_le _⟩ (by decide) dX12_tellLaw_123 (fun H locs hH hS => ?_)
  refine lv_goto (tgt := 12) hx hb dX12_tellLaw_126 (by decide) ?_
  exact hrec _ _ H locs ls hH hS hl h
set_option maxHeartbeats 4000000 in
set_option maxRecDepth 100000 in
theorem wX12_tellLaw_b38 (hW : FWM ω) (C : Cx ω p s m args c cX12_tellLaw 4 RX12) (hr : meth.sig.returnType = none) (hk : meth.locks = false) {μo : Mem} {x1 : Int32} {x2 : Int32} {x3 : Int32} {rec : Int32 → Mem → Option Mem} (hrec : ∀ (z3 : Int32) (ν : Mem) (H : Heap) (locs : List Loc) (ls : Array Slot), Hd ω ν H → FS ω s H locs → lv_has ls 4 [(0, .ref (wB ω + 0)), (1, .int x1), (2, .int x2), (3, .int z3)] → rec z3 ν = some μo → W p l e (rmd 6) s m args below meth c H locs 0 0 (MQ below (QR ω none μo) args s 0 0 (wA ω)) (F0 m 12 ls [])) {K : Mem → Option Mem} (hK : ∀ (ν : Mem) (H : Heap) (locs : List Loc) (ls : Array Slot), Hd ω ν H → FS ω s H locs → lv_has ls 4 [(0, .ref (wB ω + 0)), (1, .int x1), (2, .int x2)] → K ν = some μo → W p l e (rmd 6) s m args below meth c H locs 0 0 (MQ below (QR ω none μo) args s 0 0 (wA ω)) (F0 m 129 ls [])) {μ : Mem} {H : Heap} {locs : List Loc} {ls : Array Slot} (hH : Hd ω μ H) (hS : FS ω s H locs) (hl : lv_has ls 4 [(0, .ref (wB ω + 0)), (1, .int x1), (2, .int x2), (3, .int x3)]) (h : fX12_tellLaw_b38 rec K x3 μ = some μo) : W p l e (rmd 6) s m args below meth c H locs 0 0 (MQ below (QR ω none μo) args s 0 0 (wA ω)) (F0 m 38 ls []) := by
  have hx := C.1
  have hb := C.2.1
  unfold fX12_tellLaw_b38 at h
  refine lv_aload_n hx hb dX12_tellLaw_38 rfl (lv_at hl 0 rfl) ?_
  refine g_1200 C hH (jM_0 hW) dX12_tellLaw_39 ?_
  refine lv_if_le (tgt := 46) hx hb dX12_tellLaw_42 (by decide) (fun hc => ?_) (fun hc => ?_)
  · have h := ite_t hc h
    refine lv_iinc (v := x3 + 1) (lv' := [(3, .int (x3 + 1)), (0, .ref (wB ω + 0)), (1, .int x1), (2, .int x2)]) hx hb dX12_tellLaw_46 hl (k := 3) rfl rfl (by decide) rfl (fun ls hl => ?_)
    refine lv_aload_n hx hb dX12_tellLaw_49 rfl (lv_at hl 1 rfl) ?_
    obtain ⟨μ8, e7, h⟩ := b1_e h
    refine cVv (as := []) (rest := []) (c_X12_goesOn hW e7) C hl.1 hH hS rfl (jM_0 hW) rfl wd_42 wd_1451 mw_X12_goesOn wd_1449 rfl (rm_ok (by decide) (by decide)) (Nat.le_of_ble_eq_true rfl) ⟨Nat.zero_le _, Nat.zero_le _⟩ (by decide) dX12_tellLaw_50 (fun H locs hH hS => ?_)
    refine lv_aload_n hx hb dX12_tellLaw_53 rfl (lv_at hl 1 rfl) ?_
    refine g_1221 (i := 21) C hH (jM_0 hW) rfl dX12_tellLaw_54 ?_
    refine lv_aload_n hx hb dX12_tellLaw_57 rfl (lv_at hl 1 rfl) ?_
    refine g_1220 C hH (jM_0 hW) dX12_tellLaw_58 ?_
    refine lv_iconst (v := 1) hx hb dX12_tellLaw_61 (by decide) ?_
    obtain ⟨b9, h⟩ := gd_e h
    obtain ⟨μ10, e11, h⟩ := bd_e h
    refine h_zast (y := 1) C hH hS (jM_21 hW).1 (jM_21 hW).2.1 b9 rfl dX12_tellLaw_62 (fun H locs hH hS => ?_)
    have hH := Hd.to e11 hH
    refine lv_aload_n hx hb dX12_tellLaw_63 rfl (lv_at hl 1 rfl) ?_
    refine g_1222 (i := 22) C hH (jM_0 hW) rfl dX12_tellLaw_64 ?_
    refine lv_aload_n hx hb dX12_tellLaw_67 rfl (lv_at hl 1 rfl) ?_
    refine g_1220 C hH (jM_0 hW) dX12_tellLaw_68 ?_
    refine lv_aload_n hx hb dX12_tellLaw_71 rfl (lv_at hl 1 rfl) ?_
    refine g_1226 C hH (jM_0 hW) dX12_tellLaw_72 ?_
    obtain ⟨b12, h⟩ := gd_e h
    obtain ⟨μ13, e14, h⟩ := bd_e h
    refine h_iast C hH hS (jM_22 hW).1 (jM_22 hW).2.1 b12 dX12_tellLaw_75 (fun H locs hH hS => ?_)
    have hH := Hd.to e14 hH
    refine lv_aload_n hx hb dX12_tellLaw_76 rfl (lv_at hl 1 rfl) ?_
    obtain ⟨μ16, e15, h⟩ := b1_e h
    refine cVv (as := []) (rest := []) (c_X12_expression hW e15) C hl.1 hH hS rfl (jM_0 hW) rfl wd_48 wd_1475 mw_X12_expression wd_1473 rfl (rm_ok (by decide) (by decide)) (Nat.le_of_ble_eq_true rfl) ⟨Nat.zero_le _, Nat.zero_le _⟩ (by decide) dX12_tellLaw_77 (fun H locs hH hS => ?_)
    refine lv_aload_n hx hb dX12_tellLaw_80 rfl (lv_at hl 1 rfl) ?_
    refine lv_bipush (v := 13) hx hb dX12_tellLaw_81 (by decide) ?_
    obtain ⟨μ18, e17, h⟩ := b1_e h
    refine cVv (as := [.int 13]) (rest := []) (c_X12_must hW e17) C hl.1 hH hS rfl (jM_0 hW) rfl wd_43 wd_1455 mw_X12_must wd_1453 rfl (rm_ok (by decide) (by decide)) (Nat.le_of_ble_eq_true rfl) ⟨Nat.zero_le _, Nat.zero_le _⟩ (by decide) dX12_tellLaw_83 (fun H locs hH hS => ?_)
    refine lv_aload_n hx hb dX12_tellLaw_86 rfl (lv_at hl 1 rfl) ?_
    refine g_1223 (i := 23) C hH (jM_0 hW) rfl dX12_tellLaw_87 ?_
    refine lv_aload_n hx hb dX12_tellLaw_90 rfl (lv_at hl 1 rfl) ?_
    refine g_1220 C hH (jM_0 hW) dX12_tellLaw_91 ?_
    refine lv_aload_n hx hb dX12_tellLaw_94 rfl (lv_at hl 1 rfl) ?_
    refine g_1226 C hH (jM_0 hW) dX12_tellLaw_95 ?_
    obtain ⟨b19, h⟩ := gd_e h
    obtain ⟨μ20, e21, h⟩ := bd_e h
    refine h_iast C hH hS (jM_23 hW).1 (jM_23 hW).2.1 b19 dX12_tellLaw_98 (fun H locs hH hS => ?_)
    have hH := Hd.to e21 hH
    refine lv_aload_n hx hb dX12_tellLaw_99 rfl (lv_at hl 1 rfl) ?_
    refine g_1200 C hH (jM_0 hW) dX12_tellLaw_100 ?_
    refine lv_if_ne (tgt := 110) hx hb dX12_tellLaw_103 (by decide) (fun hc => ?_) (fun hc => ?_)
    · have h := ite_f hc h
      exact wX12_tellLaw_b110 hW C hr hk hrec hK hH hS (lv_sub hl [1, 2, 3, 0] rfl) h
    · have h := ite_t hc h
      refine lv_aload_n hx hb dX12_tellLaw_106 rfl (lv_at hl 1 rfl) ?_
      obtain ⟨μ29, e28, h⟩ := b1_e h
      refine cVv (as := []) (rest := []) (c_X12_expression hW e28) C hl.1 hH hS rfl (jM_0 hW) rfl wd_48 wd_1475 mw_X12_expression wd_1473 rfl (rm_ok (by decide) (by decide)) (Nat.le_of_ble_eq_true rfl) ⟨Nat.zero_le _, Nat.zero_le _⟩ (by decide) dX12_tellLaw_107 (fun H locs hH hS => ?_)
      exact wX12_tellLaw_b110 hW C hr hk hrec hK hH hS (lv_sub hl [1, 2, 3, 0] rfl) h
  · have h := ite_f hc h
    exact h_vret C hr hk hH hS (by cases h; rfl) dX12_tellLaw_45
set_option maxHeartbeats 4000000 in
set_option maxRecDepth 100000 in
theorem wX12_tellLaw_s12 (hW : FWM ω) (C : Cx ω p s m args c cX12_tellLaw 4 RX12) (hr : meth.sig.returnType = none) (hk : meth.locks = false) {μo : Mem} {x1 : Int32} {x2 : Int32} {x3 : Int32} {rec : Int32 → Mem → Option Mem} (hrec : ∀ (z3 : Int32) (ν : Mem) (H : Heap) (locs : List Loc) (ls : Array Slot), Hd ω ν H → FS ω s H locs → lv_has ls 4 [(0, .ref (wB ω + 0)), (1, .int x1), (2, .int x2), (3, .int z3)] → rec z3 ν = some μo → W p l e (rmd 6) s m args below meth c H locs 0 0 (MQ below (QR ω none μo) args s 0 0 (wA ω)) (F0 m 12 ls [])) {K : Mem → Option Mem} (hK : ∀ (ν : Mem) (H : Heap) (locs : List Loc) (ls : Array Slot), Hd ω ν H → FS ω s H locs → lv_has ls 4 [(0, .ref (wB ω + 0)), (1, .int x1), (2, .int x2)] → K ν = some μo → W p l e (rmd 6) s m args below meth c H locs 0 0 (MQ below (QR ω none μo) args s 0 0 (wA ω)) (F0 m 129 ls [])) {μ : Mem} {H : Heap} {locs : List Loc} {ls : Array Slot} (hH : Hd ω μ H) (hS : FS ω s H locs) (hl : lv_has ls 4 [(0, .ref (wB ω + 0)), (1, .int x1), (2, .int x2), (3, .int x3)]) (h : fX12_tellLaw_s12 rec K x3 μ = some μo) : W p l e (rmd 6) s m args below meth c H locs 0 0 (MQ below (QR ω none μo) args s 0 0 (wA ω)) (F0 m 12 ls []) := by
  have hx := C.1
  have hb := C.2.1
  unfold fX12_tellLaw_s12 at h
  refine lv_aload_n hx hb dX12_tellLaw_12 rfl (lv_at hl 0 rfl) ?_
  refine g_1200 C hH (jM_0 hW) dX12_tellLaw_13 ?_
  refine lv_if_ne (tgt := 129) hx hb dX12_tellLaw_16 (by decide) (fun hc => ?_) (fun hc => ?_)
  · have h := ite_f hc h
    exact hK _ H locs ls hH hS (lv_sub hl [0, 1, 2] rfl) h
  · have h := ite_t hc h
    refine lv_aload_n hx hb dX12_tellLaw_19 rfl (lv_at hl 0 rfl) ?_
    refine lv_bipush (v := 29) hx hb dX12_tellLaw_20 (by decide) ?_
    obtain ⟨r6, e5, h⟩ := b1_e h
    refine cVi (as := [.int 29]) (rest := []) (c_X12_is hW e5) C hl.1 hH hS rfl (jM_0 hW) rfl wd_38 wd_1435 mw_X12_is wd_1433 rfl (rm_ok (by decide) (by decide)) (Nat.le_of_ble_eq_true rfl) ⟨Nat.zero_le _, Nat.zero_le _⟩ (by decide) dX12_tellLaw_22 (fun H locs hH hS => ?_)
    refine lv_if_eq (tgt := 129) hx hb dX12_tellLaw_25 (by decide) (fun hc => ?_) (fun hc => ?_)
    · have h := ite_t hc h
      exact hK _ H locs ls hH hS (lv_sub hl [0, 1, 2] rfl) h
    · have h := ite_f hc h
      refine lv_iload_n hx hb dX12_tellLaw_28 rfl (lv_at hl 3 rfl) ?_
      refine lv_iconst (v := 4) hx hb dX12_tellLaw_29 (by decide) ?_
      refine lv_icmp_ne (tgt := 38) hx hb dX12_tellLaw_30 (by decide) (fun hc => ?_) (fun hc => ?_)
      · have h := ite_f hc h
        exact wX12_tellLaw_b38 hW C hr hk hrec hK hH hS hl h
      · have h := ite_t hc h
        refine lv_aload_n hx hb dX12_tellLaw_33 rfl (lv_at hl 0 rfl) ?_
        refine lv_iconst (v := 2) hx hb dX12_tellLaw_34 (by decide) ?_
        obtain ⟨μ31, e30, h⟩ := b1_e h
        refine cVv (as := [.int 2]) (rest := []) (c_X12_fail hW e30) C hl.1 hH hS rfl (jM_0 hW) rfl wd_40 wd_1443 mw_X12_fail wd_1441 rfl (rm_ok (by decide) (by decide)) (Nat.le_of_ble_eq_true rfl) ⟨Nat.zero_le _, Nat.zero_le _⟩ (by decide) dX12_tellLaw_35 (fun H locs hH hS => ?_)
        exact wX12_tellLaw_b38 hW C hr hk hrec hK hH hS hl h
theorem wX12_tellLaw_l12 (hW : FWM ω) (C : Cx ω p s m args c cX12_tellLaw 4 RX12) (hr : meth.sig.returnType = none) (hk : meth.locks = false) {μo : Mem} {x1 : Int32} {x2 : Int32} {K : Mem → Option Mem} (hK : ∀ (ν : Mem) (H : Heap) (locs : List Loc) (ls : Array Slot), Hd ω ν H → FS ω s H locs → lv_has ls 4 [(0, .ref (wB ω + 0)), (1, .int x1), (2, .int x2)] → K ν = some μo → W p l e (rmd 6) s m args below meth c H locs 0 0 (MQ below (QR ω none μo) args s 0 0 (wA ω)) (F0 m 129 ls [])) : ∀ (n : Nat) (x3 : Int32) (μ : Mem) (H : Heap) (locs : List Loc) (ls : Array Slot), Hd ω μ H → FS ω s H locs → lv_has ls 4 [(0, .ref (wB ω + 0)), (1, .int x1), (2, .int x2), (3, .int x3)] → fX12_tellLaw_l12 K n x3 μ = some μo → W p l e (rmd 6) s m args below meth c H locs 0 0 (MQ below (QR ω none μo) args s 0 0 (wA ω)) (F0 m 12 ls []) := by
  intro n
  induction n with
  | zero => intro x3 μ H locs ls hH hS hl h; cases h
  | succ n ih => intro x3 μ H locs ls hH hS hl h; exact wX12_tellLaw_s12 hW C hr hk ih hK hH hS hl h
set_option maxHeartbeats 4000000 in
set_option maxRecDepth 100000 in
theorem wX12_tellLaw_b129 (hW : FWM ω) (C : Cx ω p s m args c cX12_tellLaw 4 RX12) (hr : meth.sig.returnType = none) (hk : meth.locks = false) {μo : Mem} {x1 : Int32} {x2 : Int32} {μ : Mem} {H : Heap} {locs : List Loc} {ls : Array Slot} (hH : Hd ω μ H) (hS : FS ω s H locs) (hl : lv_has ls 4 [(0, .ref (wB ω + 0)), (1, .int x1), (2, .int x2)]) (h : fX12_tellLaw_b129 x1 x2 μ = some μo) : W p l e (rmd 6) s m args below meth c H locs 0 0 (MQ below (QR ω none μo) args s 0 0 (wA ω)) (F0 m 129 ls []) := by
  have hx := C.1
  have hb := C.2.1
  unfold fX12_tellLaw_b129 at h
  refine lv_aload_n hx hb dX12_tellLaw_129 rfl (lv_at hl 0 rfl) ?_
  refine g_1221 (i := 21) C hH (jM_0 hW) rfl dX12_tellLaw_130 ?_
  refine lv_aload_n hx hb dX12_tellLaw_133 rfl (lv_at hl 0 rfl) ?_
  refine g_1220 C hH (jM_0 hW) dX12_tellLaw_134 ?_
  refine lv_iconst (v := 0) hx hb dX12_tellLaw_137 (by decide) ?_
  obtain ⟨b33, h⟩ := gd_e h
  obtain ⟨μ34, e35, h⟩ := bd_e h
  refine h_zast (y := 0) C hH hS (jM_21 hW).1 (jM_21 hW).2.1 b33 rfl dX12_tellLaw_138 (fun H locs hH hS => ?_)
  have hH := Hd.to e35 hH
  refine lv_aload_n hx hb dX12_tellLaw_139 rfl (lv_at hl 0 rfl) ?_
  obtain ⟨μ37, e36, h⟩ := b1_e h
  refine cVv (as := []) (rest := []) (c_X12_term hW e36) C hl.1 hH hS rfl (jM_0 hW) rfl wd_52 wd_1491 mw_X12_term wd_1489 rfl (rm_ok (by decide) (by decide)) (Nat.le_of_ble_eq_true rfl) ⟨Nat.zero_le _, Nat.zero_le _⟩ (by decide) dX12_tellLaw_140 (fun H locs hH hS => ?_)
  refine lv_aload_n hx hb dX12_tellLaw_143 rfl (lv_at hl 0 rfl) ?_
  refine lv_iconst (v := 4) hx hb dX12_tellLaw_144 (by decide) ?_
  obtain ⟨μ39, e38, h⟩ := b1_e h
  refine cVv (as := [.int 4]) (rest := []) (c_X12_must hW e38) C hl.1 hH hS rfl (jM_0 hW) rfl wd_43 wd_1455 mw_X12_must wd_1453 rfl (rm_ok (by decide) (by decide)) (Nat.le_of_ble_eq_true rfl) ⟨Nat.zero_le _, Nat.zero_le _⟩ (by decide) dX12_tellLaw_145 (fun H locs hH hS => ?_)
  refine lv_aload_n hx hb dX12_tellLaw_148 rfl (lv_at hl 0 rfl) ?_
  refine g_1200 C hH (jM_0 hW) dX12_tellLaw_149 ?_
  refine lv_if_le (tgt := 156) hx hb dX12_tellLaw_152 (by decide) (fun hc => ?_) (fun hc => ?_)
  · have h := ite_t hc h
    refine lv_aload_n hx hb dX12_tellLaw_156 rfl (lv_at hl 0 rfl) ?_
    refine g_1218 (i := 19) C hH (jM_0 hW) rfl dX12_tellLaw_157 ?_
    refine lv_iconst (v := 4) hx hb dX12_tellLaw_160 (by decide) ?_
    refine lv_aload_n hx hb dX12_tellLaw_161 rfl (lv_at hl 0 rfl) ?_
    refine g_1206 C hH (jM_0 hW) dX12_tellLaw_162 ?_
    refine lv_imul hx hb dX12_tellLaw_165 ?_
    refine lv_iload_n hx hb dX12_tellLaw_166 rfl (lv_at hl 1 rfl) ?_
    refine lv_iadd hx hb dX12_tellLaw_167 ?_
    refine lv_iload_n hx hb dX12_tellLaw_168 rfl (lv_at hl 2 rfl) ?_
    obtain ⟨b40, h⟩ := gd_e h
    obtain ⟨μ41, e42, h⟩ := bd_e h
    refine h_iast C hH hS (jM_19 hW).1 (jM_19 hW).2.1 b40 dX12_tellLaw_169 (fun H locs hH hS => ?_)
    have hH := Hd.to e42 hH
    refine lv_aload_n hx hb dX12_tellLaw_170 rfl (lv_at hl 0 rfl) ?_
    refine g_1219 (i := 20) C hH (jM_0 hW) rfl dX12_tellLaw_171 ?_
    refine lv_iconst (v := 4) hx hb dX12_tellLaw_174 (by decide) ?_
    refine lv_aload_n hx hb dX12_tellLaw_175 rfl (lv_at hl 0 rfl) ?_
    refine g_1206 C hH (jM_0 hW) dX12_tellLaw_176 ?_
    refine lv_imul hx hb dX12_tellLaw_179 ?_
    refine lv_iload_n hx hb dX12_tellLaw_180 rfl (lv_at hl 1 rfl) ?_
    refine lv_iadd hx hb dX12_tellLaw_181 ?_
    refine lv_aload_n hx hb dX12_tellLaw_182 rfl (lv_at hl 0 rfl) ?_
    refine g_1220 C hH (jM_0 hW) dX12_tellLaw_183 ?_
    obtain ⟨b43, h⟩ := gd_e h
    obtain ⟨μ44, e45, h⟩ := bd_e h
    refine h_iast C hH hS (jM_20 hW).1 (jM_20 hW).2.1 b43 dX12_tellLaw_186 (fun H locs hH hS => ?_)
    have hH := Hd.to e45 hH
    exact h_vret C hr hk hH hS (by cases h; rfl) dX12_tellLaw_187
  · have h := ite_f hc h
    exact h_vret C hr hk hH hS (by cases h; rfl) dX12_tellLaw_155
set_option maxHeartbeats 4000000 in
set_option maxRecDepth 100000 in
theorem wX12_tellLaw_e (hW : FWM ω) (C : Cx ω p s m args c cX12_tellLaw 4 RX12) (hr : meth.sig.returnType = none) (hk : meth.locks = false) {μo : Mem} {x1 : Int32} {μ : Mem} {H : Heap} {locs : List Loc} {ls : Array Slot} (hH : Hd ω μ H) (hS : FS ω s H locs) (hl : lv_has ls 4 [(0, .ref (wB ω + 0)), (1, .int x1)]) (h : fX12_tellLaw x1 μ = some μo) : W p l e (rmd 6) s m args below meth c H locs 0 0 (MQ below (QR ω none μo) args s 0 0 (wA ω)) (F0 m 0 ls []) := by
  have hx := C.1
  have hb := C.2.1
  unfold fX12_tellLaw at h
  refine lv_aload_n hx hb dX12_tellLaw_0 rfl (lv_at hl 0 rfl) ?_
  refine lv_iconst (v := 5) hx hb dX12_tellLaw_1 (by decide) ?_
  obtain ⟨μ2, e1, h⟩ := b1_e h
  refine cVv (as := [.int 5]) (rest := []) (c_X12_must hW e1) C hl.1 hH hS rfl (jM_0 hW) rfl wd_43 wd_1455 mw_X12_must wd_1453 rfl (rm_ok (by decide) (by decide)) (Nat.le_of_ble_eq_true rfl) ⟨Nat.zero_le _, Nat.zero_le _⟩ (by decide) dX12_tellLaw_2 (fun H locs hH hS => ?_)
  refine lv_aload_n hx hb dX12_tellLaw_5 rfl (lv_at hl 0 rfl) ?_
  refine g_1220 C hH (jM_0 hW) dX12_tellLaw_6 ?_
  obtain ⟨y3, e4, h⟩ := bd_e h
  refine h_topi e4 ?_
  refine lv_istore_n (lv' := [(2, .int y3), (0, .ref (wB ω + 0)), (1, .int x1)]) hx hb dX12_tellLaw_9 rfl hl (by decide) rfl (fun ls hl => ?_)
  refine lv_iconst (v := 0) hx hb dX12_tellLaw_10 (by decide) ?_
  refine lv_istore_n (lv' := [(3, .int 0), (2, .int y3), (0, .ref (wB ω + 0)), (1, .int x1)]) hx hb dX12_tellLaw_11 rfl hl (by decide) rfl (fun ls hl => ?_)
  refine wX12_tellLaw_l12 hW C hr hk (fun μ32 H locs ls hH hS hl h => ?_) FU _ _ H locs ls hH hS (lv_sub hl [2, 3, 1, 0] rfl) h
  exact wX12_tellLaw_b129 hW C hr hk hH hS hl h
theorem c_X12_tellLaw {l : Launch} {ω : WW} {x1 : Int32} (hW : FWM ω) {μ : Mem} {μo : Mem} (h : fX12_tellLaw x1 μ = some μo) : Con l yX12_tellLaw cX12_tellLaw 4 none 6 ω [.ref (wB ω + 0), .int x1] μ none μo :=
  con_of (by decide) (Nat.le_of_ble_eq_true rfl) (fun p e s m args below meth c ls C hr hk hl hH hS => wX12_tellLaw_e hW C hr hk hH hS (lv_sub hl [0, 1] rfl) h)
end WK12
