theorem dX11_lasts_0 : decode cX11_lasts 0 = .ok (.aload_n 0, 1) := by decide +kernel
theorem dX11_lasts_1 : decode cX11_lasts 1 = .ok (.getfield 39, 3) := by decide +kernel
theorem dX11_lasts_4 : decode cX11_lasts 4 = .ok (.aload_n 0, 1) := by decide +kernel
theorem dX11_lasts_5 : decode cX11_lasts 5 = .ok (.getfield 30, 3) := by decide +kernel
theorem dX11_lasts_8 : decode cX11_lasts 8 = .ok (.invokevirtual 233, 3) := by decide +kernel
theorem dX11_lasts_11 : decode cX11_lasts 11 = .ok (.iconst 0, 1) := by decide +kernel
theorem dX11_lasts_12 : decode cX11_lasts 12 = .ok (.istore_n 1, 1) := by decide +kernel
theorem dX11_lasts_13 : decode cX11_lasts 13 = .ok (.iload_n 1, 1) := by decide +kernel
theorem dX11_lasts_14 : decode cX11_lasts 14 = .ok (.bipush 60, 2) := by decide +kernel
theorem dX11_lasts_16 : decode cX11_lasts 16 = .ok (.if_icmp .ge 92, 3) := by decide +kernel
theorem dX11_lasts_19 : decode cX11_lasts 19 = .ok (.iconst 0, 1) := by decide +kernel
theorem dX11_lasts_20 : decode cX11_lasts 20 = .ok (.istore_n 2, 1) := by decide +kernel
theorem dX11_lasts_21 : decode cX11_lasts 21 = .ok (.iload_n 2, 1) := by decide +kernel
theorem dX11_lasts_22 : decode cX11_lasts 22 = .ok (.aload_n 0, 1) := by decide +kernel
theorem dX11_lasts_23 : decode cX11_lasts 23 = .ok (.getfield 23, 3) := by decide +kernel
theorem dX11_lasts_26 : decode cX11_lasts 26 = .ok (.getfield 158, 3) := by decide +kernel
theorem dX11_lasts_29 : decode cX11_lasts 29 = .ok (.if_icmp .ge 49, 3) := by decide +kernel
theorem dX11_lasts_32 : decode cX11_lasts 32 = .ok (.iconst 0, 1) := by decide +kernel
theorem dX11_lasts_33 : decode cX11_lasts 33 = .ok (.aload_n 0, 1) := by decide +kernel
theorem dX11_lasts_34 : decode cX11_lasts 34 = .ok (.aload_n 0, 1) := by decide +kernel
theorem dX11_lasts_35 : decode cX11_lasts 35 = .ok (.getfield 39, 3) := by decide +kernel
theorem dX11_lasts_38 : decode cX11_lasts 38 = .ok (.iload_n 2, 1) := by decide +kernel
theorem dX11_lasts_39 : decode cX11_lasts 39 = .ok (.invokevirtual 248, 3) := by decide +kernel
theorem dX11_lasts_42 : decode cX11_lasts 42 = .ok (.invokestatic 258, 3) := by decide +kernel
theorem dX11_lasts_45 : decode cX11_lasts 45 = .ok (.istore_n 3, 1) := by decide +kernel
theorem dX11_lasts_46 : decode cX11_lasts 46 = .ok (.iload_n 3, 1) := by decide +kernel
theorem dX11_lasts_47 : decode cX11_lasts 47 = .ok (.aload_n 0, 1) := by decide +kernel
theorem dX11_lasts_48 : decode cX11_lasts 48 = .ok (.getfield 39, 3) := by decide +kernel
theorem dX11_lasts_51 : decode cX11_lasts 51 = .ok (.getfield 38, 3) := by decide +kernel
theorem dX11_lasts_54 : decode cX11_lasts 54 = .ok (.if_icmp .le 5, 3) := by decide +kernel
theorem dX11_lasts_57 : decode cX11_lasts 57 = .ok (.iload_n 1, 1) := by decide +kernel
theorem dX11_lasts_58 : decode cX11_lasts 58 = .ok (.ireturn, 1) := by decide +kernel
theorem dX11_lasts_59 : decode cX11_lasts 59 = .ok (.aload_n 0, 1) := by decide +kernel
theorem dX11_lasts_60 : decode cX11_lasts 60 = .ok (.getfield 23, 3) := by decide +kernel
theorem dX11_lasts_63 : decode cX11_lasts 63 = .ok (.aload_n 0, 1) := by decide +kernel
theorem dX11_lasts_64 : decode cX11_lasts 64 = .ok (.getfield 39, 3) := by decide +kernel
theorem dX11_lasts_67 : decode cX11_lasts 67 = .ok (.iload_n 2, 1) := by decide +kernel
theorem dX11_lasts_68 : decode cX11_lasts 68 = .ok (.iload_n 3, 1) := by decide +kernel
theorem dX11_lasts_69 : decode cX11_lasts 69 = .ok (.invokevirtual 200, 3) := by decide +kernel
theorem dX11_lasts_72 : decode cX11_lasts 72 = .ok (.iinc 2 1, 3) := by decide +kernel
theorem dX11_lasts_75 : decode cX11_lasts 75 = .ok (.goto (-54), 3) := by decide +kernel
theorem dX11_lasts_78 : decode cX11_lasts 78 = .ok (.aload_n 0, 1) := by decide +kernel
theorem dX11_lasts_79 : decode cX11_lasts 79 = .ok (.getfield 23, 3) := by decide +kernel
theorem dX11_lasts_82 : decode cX11_lasts 82 = .ok (.aload_n 0, 1) := by decide +kernel
theorem dX11_lasts_83 : decode cX11_lasts 83 = .ok (.getfield 39, 3) := by decide +kernel
theorem dX11_lasts_86 : decode cX11_lasts 86 = .ok (.invokevirtual 213, 3) := by decide +kernel
theorem dX11_lasts_89 : decode cX11_lasts 89 = .ok (.aload_n 0, 1) := by decide +kernel
theorem dX11_lasts_90 : decode cX11_lasts 90 = .ok (.getfield 39, 3) := by decide +kernel
theorem dX11_lasts_93 : decode cX11_lasts 93 = .ok (.dup, 1) := by decide +kernel
theorem dX11_lasts_94 : decode cX11_lasts 94 = .ok (.getfield 161, 3) := by decide +kernel
theorem dX11_lasts_97 : decode cX11_lasts 97 = .ok (.iconst 1, 1) := by decide +kernel
theorem dX11_lasts_98 : decode cX11_lasts 98 = .ok (.iadd, 1) := by decide +kernel
theorem dX11_lasts_99 : decode cX11_lasts 99 = .ok (.putfield 161, 3) := by decide +kernel
theorem dX11_lasts_102 : decode cX11_lasts 102 = .ok (.iinc 1 1, 3) := by decide +kernel
theorem dX11_lasts_105 : decode cX11_lasts 105 = .ok (.goto (-92), 3) := by decide +kernel
theorem dX11_lasts_108 : decode cX11_lasts 108 = .ok (.bipush 60, 2) := by decide +kernel
theorem dX11_lasts_110 : decode cX11_lasts 110 = .ok (.ireturn, 1) := by decide +kernel
theorem dX9_isAtLeast_0 : decode cX9_isAtLeast 0 = .ok (.iload_n 2, 1) := by decide +kernel
theorem dX9_isAtLeast_1 : decode cX9_isAtLeast 1 = .ok (.ifCond .lt 26, 3) := by decide +kernel
theorem dX9_isAtLeast_4 : decode cX9_isAtLeast 4 = .ok (.iload_n 2, 1) := by decide +kernel
theorem dX9_isAtLeast_5 : decode cX9_isAtLeast 5 = .ok (.iconst 4, 1) := by decide +kernel
theorem dX9_isAtLeast_6 : decode cX9_isAtLeast 6 = .ok (.if_icmp .ge 21, 3) := by decide +kernel
theorem dX9_isAtLeast_9 : decode cX9_isAtLeast 9 = .ok (.aload_n 0, 1) := by decide +kernel
theorem dX9_isAtLeast_10 : decode cX9_isAtLeast 10 = .ok (.iload_n 1, 1) := by decide +kernel
theorem dX9_isAtLeast_11 : decode cX9_isAtLeast 11 = .ok (.getstatic 26, 3) := by decide +kernel
theorem dX9_isAtLeast_14 : decode cX9_isAtLeast 14 = .ok (.iload_n 2, 1) := by decide +kernel
theorem dX9_isAtLeast_15 : decode cX9_isAtLeast 15 = .ok (.iaload, 1) := by decide +kernel
theorem dX9_isAtLeast_16 : decode cX9_isAtLeast 16 = .ok (.invokevirtual 29, 3) := by decide +kernel
theorem dX9_isAtLeast_19 : decode cX9_isAtLeast 19 = .ok (.iload_n 3, 1) := by decide +kernel
theorem dX9_isAtLeast_20 : decode cX9_isAtLeast 20 = .ok (.if_icmp .lt 7, 3) := by decide +kernel
theorem dX9_isAtLeast_23 : decode cX9_isAtLeast 23 = .ok (.iconst 1, 1) := by decide +kernel
theorem dX9_isAtLeast_24 : decode cX9_isAtLeast 24 = .ok (.goto 4, 3) := by decide +kernel
theorem dX9_isAtLeast_27 : decode cX9_isAtLeast 27 = .ok (.iconst 0, 1) := by decide +kernel
theorem dX9_isAtLeast_28 : decode cX9_isAtLeast 28 = .ok (.ireturn, 1) := by decide +kernel
theorem dX9_fitting_0 : decode cX9_fitting 0 = .ok (.iconst 0, 1) := by decide +kernel
theorem dX9_fitting_1 : decode cX9_fitting 1 = .ok (.istore 4, 2) := by decide +kernel
theorem dX9_fitting_3 : decode cX9_fitting 3 = .ok (.iconst 0, 1) := by decide +kernel
theorem dX9_fitting_4 : decode cX9_fitting 4 = .ok (.istore 5, 2) := by decide +kernel
theorem dX9_fitting_6 : decode cX9_fitting 6 = .ok (.iload 5, 2) := by decide +kernel
theorem dX9_fitting_8 : decode cX9_fitting 8 = .ok (.iload_n 2, 1) := by decide +kernel
theorem dX9_fitting_9 : decode cX9_fitting 9 = .ok (.if_icmp .ge 90, 3) := by decide +kernel
theorem dX9_fitting_12 : decode cX9_fitting 12 = .ok (.iconst 1, 1) := by decide +kernel
theorem dX9_fitting_13 : decode cX9_fitting 13 = .ok (.istore 6, 2) := by decide +kernel
theorem dX9_fitting_15 : decode cX9_fitting 15 = .ok (.iconst 0, 1) := by decide +kernel
theorem dX9_fitting_16 : decode cX9_fitting 16 = .ok (.istore 7, 2) := by decide +kernel
theorem dX9_fitting_18 : decode cX9_fitting 18 = .ok (.iload 7, 2) := by decide +kernel
theorem dX9_fitting_20 : decode cX9_fitting 20 = .ok (.iload_n 3, 1) := by decide +kernel
theorem dX9_fitting_21 : decode cX9_fitting 21 = .ok (.if_icmp .ge 58, 3) := by decide +kernel
theorem dX9_fitting_24 : decode cX9_fitting 24 = .ok (.iload 7, 2) := by decide +kernel
theorem dX9_fitting_26 : decode cX9_fitting 26 = .ok (.bipush 20, 2) := by decide +kernel
theorem dX9_fitting_28 : decode cX9_fitting 28 = .ok (.if_icmp .ge 51, 3) := by decide +kernel
theorem dX9_fitting_31 : decode cX9_fitting 31 = .ok (.iload 6, 2) := by decide +kernel
theorem dX9_fitting_33 : decode cX9_fitting 33 = .ok (.ifCond .eq 37, 3) := by decide +kernel
theorem dX9_fitting_36 : decode cX9_fitting 36 = .ok (.aload_n 1, 1) := by decide +kernel
theorem dX9_fitting_37 : decode cX9_fitting 37 = .ok (.iload 5, 2) := by decide +kernel
theorem dX9_fitting_39 : decode cX9_fitting 39 = .ok (.aload_n 0, 1) := by decide +kernel
theorem dX9_fitting_40 : decode cX9_fitting 40 = .ok (.getfield 11, 3) := by decide +kernel
theorem dX9_fitting_43 : decode cX9_fitting 43 = .ok (.iload 7, 2) := by decide +kernel
theorem dX9_fitting_45 : decode cX9_fitting 45 = .ok (.iaload, 1) := by decide +kernel
theorem dX9_fitting_46 : decode cX9_fitting 46 = .ok (.aload_n 0, 1) := by decide +kernel
theorem dX9_fitting_47 : decode cX9_fitting 47 = .ok (.getfield 15, 3) := by decide +kernel
theorem dX9_fitting_50 : decode cX9_fitting 50 = .ok (.iload 7, 2) := by decide +kernel
theorem dX9_fitting_52 : decode cX9_fitting 52 = .ok (.iaload, 1) := by decide +kernel
theorem dX9_fitting_53 : decode cX9_fitting 53 = .ok (.invokestatic 35, 3) := by decide +kernel
theorem dX9_fitting_56 : decode cX9_fitting 56 = .ok (.aload_n 0, 1) := by decide +kernel
theorem dX9_fitting_57 : decode cX9_fitting 57 = .ok (.getfield 18, 3) := by decide +kernel
theorem dX9_fitting_60 : decode cX9_fitting 60 = .ok (.iload 7, 2) := by decide +kernel
theorem dX9_fitting_62 : decode cX9_fitting 62 = .ok (.baload, 1) := by decide +kernel
theorem dX9_fitting_63 : decode cX9_fitting 63 = .ok (.if_icmp .ne 7, 3) := by decide +kernel
theorem dX9_fitting_66 : decode cX9_fitting 66 = .ok (.iconst 1, 1) := by decide +kernel
theorem dX9_fitting_67 : decode cX9_fitting 67 = .ok (.goto 4, 3) := by decide +kernel
theorem dX9_fitting_70 : decode cX9_fitting 70 = .ok (.iconst 0, 1) := by decide +kernel
theorem dX9_fitting_71 : decode cX9_fitting 71 = .ok (.istore 6, 2) := by decide +kernel
theorem dX9_fitting_73 : decode cX9_fitting 73 = .ok (.iinc 7 1, 3) := by decide +kernel
theorem dX9_fitting_76 : decode cX9_fitting 76 = .ok (.goto (-58), 3) := by decide +kernel
theorem dX9_fitting_79 : decode cX9_fitting 79 = .ok (.iload 6, 2) := by decide +kernel
theorem dX9_fitting_81 : decode cX9_fitting 81 = .ok (.ifCond .eq 12, 3) := by decide +kernel
theorem dX9_fitting_84 : decode cX9_fitting 84 = .ok (.iload 4, 2) := by decide +kernel
theorem dX9_fitting_86 : decode cX9_fitting 86 = .ok (.iconst 1, 1) := by decide +kernel
theorem dX9_fitting_87 : decode cX9_fitting 87 = .ok (.iload 5, 2) := by decide +kernel
theorem dX9_fitting_89 : decode cX9_fitting 89 = .ok (.ishl, 1) := by decide +kernel
theorem dX9_fitting_90 : decode cX9_fitting 90 = .ok (.ior, 1) := by decide +kernel
theorem dX9_fitting_91 : decode cX9_fitting 91 = .ok (.istore 4, 2) := by decide +kernel
theorem dX9_fitting_93 : decode cX9_fitting 93 = .ok (.iinc 5 1, 3) := by decide +kernel
theorem dX9_fitting_96 : decode cX9_fitting 96 = .ok (.goto (-90), 3) := by decide +kernel
theorem dX9_fitting_99 : decode cX9_fitting 99 = .ok (.iload 4, 2) := by decide +kernel
theorem dX9_fitting_101 : decode cX9_fitting 101 = .ok (.ireturn, 1) := by decide +kernel
theorem dX9_leftAtWorst_0 : decode cX9_leftAtWorst 0 = .ok (.iconst 0, 1) := by decide +kernel
theorem dX9_leftAtWorst_1 : decode cX9_leftAtWorst 1 = .ok (.istore 4, 2) := by decide +kernel
theorem dX9_leftAtWorst_3 : decode cX9_leftAtWorst 3 = .ok (.iconst 0, 1) := by decide +kernel
theorem dX9_leftAtWorst_4 : decode cX9_leftAtWorst 4 = .ok (.istore 5, 2) := by decide +kernel
theorem dX9_leftAtWorst_6 : decode cX9_leftAtWorst 6 = .ok (.iload 5, 2) := by decide +kernel
theorem dX9_leftAtWorst_8 : decode cX9_leftAtWorst 8 = .ok (.bipush 6, 2) := by decide +kernel
theorem dX9_leftAtWorst_10 : decode cX9_leftAtWorst 10 = .ok (.if_icmp .ge 33, 3) := by decide +kernel
theorem dX9_leftAtWorst_13 : decode cX9_leftAtWorst 13 = .ok (.iload_n 1, 1) := by decide +kernel
theorem dX9_leftAtWorst_14 : decode cX9_leftAtWorst 14 = .ok (.iload 5, 2) := by decide +kernel
theorem dX9_leftAtWorst_16 : decode cX9_leftAtWorst 16 = .ok (.ishr, 1) := by decide +kernel
theorem dX9_leftAtWorst_17 : decode cX9_leftAtWorst 17 = .ok (.iconst 1, 1) := by decide +kernel
theorem dX9_leftAtWorst_18 : decode cX9_leftAtWorst 18 = .ok (.iand, 1) := by decide +kernel
theorem dX9_leftAtWorst_19 : decode cX9_leftAtWorst 19 = .ok (.iconst 1, 1) := by decide +kernel
theorem dX9_leftAtWorst_20 : decode cX9_leftAtWorst 20 = .ok (.if_icmp .ne 17, 3) := by decide +kernel
theorem dX9_leftAtWorst_23 : decode cX9_leftAtWorst 23 = .ok (.aload_n 0, 1) := by decide +kernel
theorem dX9_leftAtWorst_24 : decode cX9_leftAtWorst 24 = .ok (.iload 5, 2) := by decide +kernel
theorem dX9_leftAtWorst_26 : decode cX9_leftAtWorst 26 = .ok (.iload_n 2, 1) := by decide +kernel
theorem dX9_leftAtWorst_27 : decode cX9_leftAtWorst 27 = .ok (.iload_n 3, 1) := by decide +kernel
theorem dX9_leftAtWorst_28 : decode cX9_leftAtWorst 28 = .ok (.invokestatic 35, 3) := by decide +kernel
theorem dX9_leftAtWorst_31 : decode cX9_leftAtWorst 31 = .ok (.ifCond .eq 6, 3) := by decide +kernel
theorem dX9_leftAtWorst_34 : decode cX9_leftAtWorst 34 = .ok (.iinc 4 1, 3) := by decide +kernel
theorem dX9_leftAtWorst_37 : decode cX9_leftAtWorst 37 = .ok (.iinc 5 1, 3) := by decide +kernel
theorem dX9_leftAtWorst_40 : decode cX9_leftAtWorst 40 = .ok (.goto (-34), 3) := by decide +kernel
theorem dX9_leftAtWorst_43 : decode cX9_leftAtWorst 43 = .ok (.iload 4, 2) := by decide +kernel
theorem dX9_leftAtWorst_45 : decode cX9_leftAtWorst 45 = .ok (.iload_n 1, 1) := by decide +kernel
theorem dX9_leftAtWorst_46 : decode cX9_leftAtWorst 46 = .ok (.invokestatic 44, 3) := by decide +kernel
theorem dX9_leftAtWorst_49 : decode cX9_leftAtWorst 49 = .ok (.iload 4, 2) := by decide +kernel
theorem dX9_leftAtWorst_51 : decode cX9_leftAtWorst 51 = .ok (.isub, 1) := by decide +kernel
theorem dX9_leftAtWorst_52 : decode cX9_leftAtWorst 52 = .ok (.invokestatic 50, 3) := by decide +kernel
theorem dX9_leftAtWorst_55 : decode cX9_leftAtWorst 55 = .ok (.ireturn, 1) := by decide +kernel
theorem dX9_bestMark_0 : decode cX9_bestMark 0 = .ok (.iconst 0, 1) := by decide +kernel
theorem dX9_bestMark_1 : decode cX9_bestMark 1 = .ok (.istore 4, 2) := by decide +kernel
theorem dX9_bestMark_3 : decode cX9_bestMark 3 = .ok (.ldc 39, 2) := by decide +kernel
theorem dX9_bestMark_5 : decode cX9_bestMark 5 = .ok (.istore 5, 2) := by decide +kernel
theorem dX9_bestMark_7 : decode cX9_bestMark 7 = .ok (.iconst 0, 1) := by decide +kernel
theorem dX9_bestMark_8 : decode cX9_bestMark 8 = .ok (.istore 6, 2) := by decide +kernel
theorem dX9_bestMark_10 : decode cX9_bestMark 10 = .ok (.iload 6, 2) := by decide +kernel
theorem dX9_bestMark_12 : decode cX9_bestMark 12 = .ok (.iconst 4, 1) := by decide +kernel
theorem dX9_bestMark_13 : decode cX9_bestMark 13 = .ok (.if_icmp .ge 34, 3) := by decide +kernel
theorem dX9_bestMark_16 : decode cX9_bestMark 16 = .ok (.aload_n 1, 1) := by decide +kernel
theorem dX9_bestMark_17 : decode cX9_bestMark 17 = .ok (.iload_n 2, 1) := by decide +kernel
theorem dX9_bestMark_18 : decode cX9_bestMark 18 = .ok (.iload 6, 2) := by decide +kernel
theorem dX9_bestMark_20 : decode cX9_bestMark 20 = .ok (.iload_n 3, 1) := by decide +kernel
theorem dX9_bestMark_21 : decode cX9_bestMark 21 = .ok (.invokestatic 40, 3) := by decide +kernel
theorem dX9_bestMark_24 : decode cX9_bestMark 24 = .ok (.istore 7, 2) := by decide +kernel
theorem dX9_bestMark_26 : decode cX9_bestMark 26 = .ok (.iload 7, 2) := by decide +kernel
theorem dX9_bestMark_28 : decode cX9_bestMark 28 = .ok (.iload 5, 2) := by decide +kernel
theorem dX9_bestMark_30 : decode cX9_bestMark 30 = .ok (.if_icmp .ge 11, 3) := by decide +kernel
theorem dX9_bestMark_33 : decode cX9_bestMark 33 = .ok (.iload 7, 2) := by decide +kernel
theorem dX9_bestMark_35 : decode cX9_bestMark 35 = .ok (.istore 5, 2) := by decide +kernel
theorem dX9_bestMark_37 : decode cX9_bestMark 37 = .ok (.iload 6, 2) := by decide +kernel
theorem dX9_bestMark_39 : decode cX9_bestMark 39 = .ok (.istore 4, 2) := by decide +kernel
theorem dX9_bestMark_41 : decode cX9_bestMark 41 = .ok (.iinc 6 1, 3) := by decide +kernel
theorem dX9_bestMark_44 : decode cX9_bestMark 44 = .ok (.goto (-34), 3) := by decide +kernel
theorem dX9_bestMark_47 : decode cX9_bestMark 47 = .ok (.iload 4, 2) := by decide +kernel
theorem dX9_bestMark_49 : decode cX9_bestMark 49 = .ok (.ireturn, 1) := by decide +kernel
theorem dX11_look_0 : decode cX11_look 0 = .ok (.iload_n 1, 1) := by decide +kernel
theorem dX11_look_1 : decode cX11_look 1 = .ok (.ifCond .lt 25, 3) := by decide +kernel
theorem dX11_look_4 : decode cX11_look 4 = .ok (.iload_n 1, 1) := by decide +kernel
theorem dX11_look_5 : decode cX11_look 5 = .ok (.aload_n 0, 1) := by decide +kernel
theorem dX11_look_6 : decode cX11_look 6 = .ok (.getfield 91, 3) := by decide +kernel
theorem dX11_look_9 : decode cX11_look 9 = .ok (.getfield 127, 3) := by decide +kernel
theorem dX11_look_12 : decode cX11_look 12 = .ok (.if_icmp .gt 14, 3) := by decide +kernel
theorem dX11_look_15 : decode cX11_look 15 = .ok (.iload_n 2, 1) := by decide +kernel
theorem dX11_look_16 : decode cX11_look 16 = .ok (.ifCond .lt 10, 3) := by decide +kernel
theorem dX11_look_19 : decode cX11_look 19 = .ok (.iload_n 2, 1) := by decide +kernel
theorem dX11_look_20 : decode cX11_look 20 = .ok (.sipush 999, 3) := by decide +kernel
theorem dX11_look_23 : decode cX11_look 23 = .ok (.if_icmp .le 5, 3) := by decide +kernel
theorem dX11_look_26 : decode cX11_look 26 = .ok (.iconst (-1), 1) := by decide +kernel
theorem dX11_look_27 : decode cX11_look 27 = .ok (.ireturn, 1) := by decide +kernel
theorem dX11_look_28 : decode cX11_look 28 = .ok (.aload_n 0, 1) := by decide +kernel
theorem dX11_look_29 : decode cX11_look 29 = .ok (.getfield 91, 3) := by decide +kernel
theorem dX11_look_32 : decode cX11_look 32 = .ok (.aload_n 0, 1) := by decide +kernel
theorem dX11_look_33 : decode cX11_look 33 = .ok (.getfield 30, 3) := by decide +kernel
theorem dX11_look_36 : decode cX11_look 36 = .ok (.aload_n 0, 1) := by decide +kernel
theorem dX11_look_37 : decode cX11_look 37 = .ok (.getfield 23, 3) := by decide +kernel
theorem dX11_look_40 : decode cX11_look 40 = .ok (.getfield 158, 3) := by decide +kernel
theorem dX11_look_43 : decode cX11_look 43 = .ok (.iload_n 1, 1) := by decide +kernel
theorem dX11_look_44 : decode cX11_look 44 = .ok (.invokevirtual 323, 3) := by decide +kernel
theorem dX11_look_47 : decode cX11_look 47 = .ok (.istore_n 3, 1) := by decide +kernel
theorem dX11_look_48 : decode cX11_look 48 = .ok (.iload_n 3, 1) := by decide +kernel
theorem dX11_look_49 : decode cX11_look 49 = .ok (.ifCond .ne 8, 3) := by decide +kernel
theorem dX11_look_52 : decode cX11_look 52 = .ok (.bipush (-2), 2) := by decide +kernel
theorem dX11_look_54 : decode cX11_look 54 = .ok (.goto 16, 3) := by decide +kernel
theorem dX11_look_57 : decode cX11_look 57 = .ok (.aload_n 0, 1) := by decide +kernel
theorem dX11_look_58 : decode cX11_look 58 = .ok (.getfield 91, 3) := by decide +kernel
theorem dX11_look_61 : decode cX11_look 61 = .ok (.aload_n 0, 1) := by decide +kernel
theorem dX11_look_62 : decode cX11_look 62 = .ok (.getfield 30, 3) := by decide +kernel
theorem dX11_look_65 : decode cX11_look 65 = .ok (.iload_n 3, 1) := by decide +kernel
theorem dX11_look_66 : decode cX11_look 66 = .ok (.iload_n 2, 1) := by decide +kernel
theorem dX11_look_67 : decode cX11_look 67 = .ok (.invokevirtual 332, 3) := by decide +kernel
theorem dX11_look_70 : decode cX11_look 70 = .ok (.ireturn, 1) := by decide +kernel
theorem dX11_lookAhead_0 : decode cX11_lookAhead 0 = .ok (.aload_n 0, 1) := by decide +kernel
theorem dX11_lookAhead_1 : decode cX11_lookAhead 1 = .ok (.getfield 39, 3) := by decide +kernel
theorem dX11_lookAhead_4 : decode cX11_lookAhead 4 = .ok (.aload_n 0, 1) := by decide +kernel
theorem dX11_lookAhead_5 : decode cX11_lookAhead 5 = .ok (.getfield 30, 3) := by decide +kernel
theorem dX11_lookAhead_8 : decode cX11_lookAhead 8 = .ok (.invokevirtual 233, 3) := by decide +kernel
theorem dX11_lookAhead_11 : decode cX11_lookAhead 11 = .ok (.iconst 0, 1) := by decide +kernel
theorem dX11_lookAhead_12 : decode cX11_lookAhead 12 = .ok (.istore 4, 2) := by decide +kernel
theorem dX11_lookAhead_14 : decode cX11_lookAhead 14 = .ok (.iload 4, 2) := by decide +kernel
theorem dX11_lookAhead_16 : decode cX11_lookAhead 16 = .ok (.iload_n 2, 1) := by decide +kernel
theorem dX11_lookAhead_17 : decode cX11_lookAhead 17 = .ok (.if_icmp .ge 65, 3) := by decide +kernel
theorem dX11_lookAhead_20 : decode cX11_lookAhead 20 = .ok (.aload_n 0, 1) := by decide +kernel
theorem dX11_lookAhead_21 : decode cX11_lookAhead 21 = .ok (.getfield 23, 3) := by decide +kernel
theorem dX11_lookAhead_24 : decode cX11_lookAhead 24 = .ok (.aload_n 0, 1) := by decide +kernel
theorem dX11_lookAhead_25 : decode cX11_lookAhead 25 = .ok (.getfield 39, 3) := by decide +kernel
theorem dX11_lookAhead_28 : decode cX11_lookAhead 28 = .ok (.iload_n 1, 1) := by decide +kernel
theorem dX11_lookAhead_29 : decode cX11_lookAhead 29 = .ok (.invokevirtual 264, 3) := by decide +kernel
theorem dX11_lookAhead_32 : decode cX11_lookAhead 32 = .ok (.aload_n 0, 1) := by decide +kernel
theorem dX11_lookAhead_33 : decode cX11_lookAhead 33 = .ok (.getfield 23, 3) := by decide +kernel
theorem dX11_lookAhead_36 : decode cX11_lookAhead 36 = .ok (.iload_n 3, 1) := by decide +kernel
theorem dX11_lookAhead_37 : decode cX11_lookAhead 37 = .ok (.aload_n 0, 1) := by decide +kernel
theorem dX11_lookAhead_38 : decode cX11_lookAhead 38 = .ok (.getfield 39, 3) := by decide +kernel
theorem dX11_lookAhead_41 : decode cX11_lookAhead 41 = .ok (.getfield 161, 3) := by decide +kernel
theorem dX11_lookAhead_44 : decode cX11_lookAhead 44 = .ok (.invokevirtual 278, 3) := by decide +kernel
theorem dX11_lookAhead_47 : decode cX11_lookAhead 47 = .ok (.iload_n 1, 1) := by decide +kernel
theorem dX11_lookAhead_48 : decode cX11_lookAhead 48 = .ok (.if_icmp .ne 15, 3) := by decide +kernel
theorem dX11_lookAhead_51 : decode cX11_lookAhead 51 = .ok (.aload_n 0, 1) := by decide +kernel
theorem dX11_lookAhead_52 : decode cX11_lookAhead 52 = .ok (.getfield 23, 3) := by decide +kernel
theorem dX11_lookAhead_55 : decode cX11_lookAhead 55 = .ok (.aload_n 0, 1) := by decide +kernel
theorem dX11_lookAhead_56 : decode cX11_lookAhead 56 = .ok (.getfield 39, 3) := by decide +kernel
theorem dX11_lookAhead_59 : decode cX11_lookAhead 59 = .ok (.iload_n 1, 1) := by decide +kernel
theorem dX11_lookAhead_60 : decode cX11_lookAhead 60 = .ok (.invokevirtual 281, 3) := by decide +kernel
theorem dX11_lookAhead_63 : decode cX11_lookAhead 63 = .ok (.aload_n 0, 1) := by decide +kernel
theorem dX11_lookAhead_64 : decode cX11_lookAhead 64 = .ok (.getfield 39, 3) := by decide +kernel
theorem dX11_lookAhead_67 : decode cX11_lookAhead 67 = .ok (.dup, 1) := by decide +kernel
theorem dX11_lookAhead_68 : decode cX11_lookAhead 68 = .ok (.getfield 161, 3) := by decide +kernel
theorem dX11_lookAhead_71 : decode cX11_lookAhead 71 = .ok (.iconst 1, 1) := by decide +kernel
theorem dX11_lookAhead_72 : decode cX11_lookAhead 72 = .ok (.iadd, 1) := by decide +kernel
theorem dX11_lookAhead_73 : decode cX11_lookAhead 73 = .ok (.putfield 161, 3) := by decide +kernel
theorem dX11_lookAhead_76 : decode cX11_lookAhead 76 = .ok (.iinc 4 1, 3) := by decide +kernel
theorem dX11_lookAhead_79 : decode cX11_lookAhead 79 = .ok (.goto (-65), 3) := by decide +kernel
theorem dX11_lookAhead_82 : decode cX11_lookAhead 82 = .ok (.return_, 1) := by decide +kernel
theorem dX11_loss_0 : decode cX11_loss 0 = .ok (.aload_n 0, 1) := by decide +kernel
theorem dX11_loss_1 : decode cX11_loss 1 = .ok (.iload_n 1, 1) := by decide +kernel
theorem dX11_loss_2 : decode cX11_loss 2 = .ok (.invokevirtual 130, 3) := by decide +kernel
theorem dX11_loss_5 : decode cX11_loss 5 = .ok (.ifCond .eq 13, 3) := by decide +kernel
theorem dX11_loss_8 : decode cX11_loss 8 = .ok (.iload_n 2, 1) := by decide +kernel
theorem dX11_loss_9 : decode cX11_loss 9 = .ok (.ifCond .lt 9, 3) := by decide +kernel
theorem dX11_loss_12 : decode cX11_loss 12 = .ok (.iload_n 2, 1) := by decide +kernel
theorem dX11_loss_13 : decode cX11_loss 13 = .ok (.bipush 30, 2) := by decide +kernel
theorem dX11_loss_15 : decode cX11_loss 15 = .ok (.if_icmp .le 5, 3) := by decide +kernel
theorem dX11_loss_18 : decode cX11_loss 18 = .ok (.iconst (-1), 1) := by decide +kernel
theorem dX11_loss_19 : decode cX11_loss 19 = .ok (.ireturn, 1) := by decide +kernel
theorem dX11_loss_20 : decode cX11_loss 20 = .ok (.aload_n 0, 1) := by decide +kernel
theorem dX11_loss_21 : decode cX11_loss 21 = .ok (.iload_n 1, 1) := by decide +kernel
theorem dX11_loss_22 : decode cX11_loss 22 = .ok (.iload_n 2, 1) := by decide +kernel
theorem dX11_loss_23 : decode cX11_loss 23 = .ok (.invokevirtual 230, 3) := by decide +kernel
theorem dX11_loss_26 : decode cX11_loss 26 = .ok (.ireturn, 1) := by decide +kernel
theorem dX11_mend_0 : decode cX11_mend 0 = .ok (.aload_n 0, 1) := by decide +kernel
theorem dX11_mend_1 : decode cX11_mend 1 = .ok (.iload_n 1, 1) := by decide +kernel
theorem dX11_mend_2 : decode cX11_mend 2 = .ok (.invokevirtual 130, 3) := by decide +kernel
theorem dX11_mend_5 : decode cX11_mend 5 = .ok (.ifCond .eq 16, 3) := by decide +kernel
theorem dX11_mend_8 : decode cX11_mend 8 = .ok (.aload_n 0, 1) := by decide +kernel
theorem dX11_mend_9 : decode cX11_mend 9 = .ok (.getfield 30, 3) := by decide +kernel
theorem dX11_mend_12 : decode cX11_mend 12 = .ok (.iload_n 1, 1) := by decide +kernel
theorem dX11_mend_13 : decode cX11_mend 13 = .ok (.iconst 1, 1) := by decide +kernel
theorem dX11_mend_14 : decode cX11_mend 14 = .ok (.invokevirtual 134, 3) := by decide +kernel
theorem dX11_mend_17 : decode cX11_mend 17 = .ok (.iconst 1, 1) := by decide +kernel
theorem dX11_mend_18 : decode cX11_mend 18 = .ok (.if_icmp .ge 5, 3) := by decide +kernel
theorem dX11_mend_21 : decode cX11_mend 21 = .ok (.iconst (-1), 1) := by decide +kernel
theorem dX11_mend_22 : decode cX11_mend 22 = .ok (.ireturn, 1) := by decide +kernel
theorem dX11_mend_23 : decode cX11_mend 23 = .ok (.aload_n 0, 1) := by decide +kernel
theorem dX11_mend_24 : decode cX11_mend 24 = .ok (.getfield 23, 3) := by decide +kernel
theorem dX11_mend_27 : decode cX11_mend 27 = .ok (.aload_n 0, 1) := by decide +kernel
theorem dX11_mend_28 : decode cX11_mend 28 = .ok (.getfield 30, 3) := by decide +kernel
theorem dX11_mend_31 : decode cX11_mend 31 = .ok (.iload_n 1, 1) := by decide +kernel
theorem dX11_mend_32 : decode cX11_mend 32 = .ok (.invokevirtual 148, 3) := by decide +kernel
theorem dX11_mend_35 : decode cX11_mend 35 = .ok (.istore_n 2, 1) := by decide +kernel
theorem dX11_mend_36 : decode cX11_mend 36 = .ok (.iload_n 2, 1) := by decide +kernel
theorem dX11_mend_37 : decode cX11_mend 37 = .ok (.aload_n 0, 1) := by decide +kernel
theorem dX11_mend_38 : decode cX11_mend 38 = .ok (.getfield 30, 3) := by decide +kernel
theorem dX11_mend_41 : decode cX11_mend 41 = .ok (.getfield 38, 3) := by decide +kernel
theorem dX11_mend_44 : decode cX11_mend 44 = .ok (.if_icmp .le 5, 3) := by decide +kernel
theorem dX11_mend_47 : decode cX11_mend 47 = .ok (.iconst (-1), 1) := by decide +kernel
theorem dX11_mend_48 : decode cX11_mend 48 = .ok (.ireturn, 1) := by decide +kernel
theorem dX11_mend_49 : decode cX11_mend 49 = .ok (.aload_n 0, 1) := by decide +kernel
theorem dX11_mend_50 : decode cX11_mend 50 = .ok (.getfield 48, 3) := by decide +kernel
theorem dX11_mend_53 : decode cX11_mend 53 = .ok (.aload_n 0, 1) := by decide +kernel
theorem dX11_mend_54 : decode cX11_mend 54 = .ok (.getfield 30, 3) := by decide +kernel
theorem dX11_mend_57 : decode cX11_mend 57 = .ok (.invokevirtual 197, 3) := by decide +kernel
theorem dX11_mend_60 : decode cX11_mend 60 = .ok (.aload_n 0, 1) := by decide +kernel
theorem dX11_mend_61 : decode cX11_mend 61 = .ok (.getfield 30, 3) := by decide +kernel
theorem dX11_mend_64 : decode cX11_mend 64 = .ok (.dup, 1) := by decide +kernel
theorem dX11_mend_65 : decode cX11_mend 65 = .ok (.getfield 38, 3) := by decide +kernel
theorem dX11_mend_68 : decode cX11_mend 68 = .ok (.iload_n 2, 1) := by decide +kernel
theorem dX11_mend_69 : decode cX11_mend 69 = .ok (.isub, 1) := by decide +kernel
theorem dX11_mend_70 : decode cX11_mend 70 = .ok (.putfield 38, 3) := by decide +kernel
theorem dX11_mend_73 : decode cX11_mend 73 = .ok (.aload_n 0, 1) := by decide +kernel
theorem dX11_mend_74 : decode cX11_mend 74 = .ok (.getfield 30, 3) := by decide +kernel
theorem dX11_mend_77 : decode cX11_mend 77 = .ok (.iload_n 1, 1) := by decide +kernel
theorem dX11_mend_78 : decode cX11_mend 78 = .ok (.iconst 1, 1) := by decide +kernel
theorem dX11_mend_79 : decode cX11_mend 79 = .ok (.aload_n 0, 1) := by decide +kernel
theorem dX11_mend_80 : decode cX11_mend 80 = .ok (.getfield 30, 3) := by decide +kernel
theorem dX11_mend_83 : decode cX11_mend 83 = .ok (.iload_n 1, 1) := by decide +kernel
theorem dX11_mend_84 : decode cX11_mend 84 = .ok (.iconst 1, 1) := by decide +kernel
theorem dX11_mend_85 : decode cX11_mend 85 = .ok (.invokevirtual 134, 3) := by decide +kernel
theorem dX11_mend_88 : decode cX11_mend 88 = .ok (.iconst 1, 1) := by decide +kernel
theorem dX11_mend_89 : decode cX11_mend 89 = .ok (.isub, 1) := by decide +kernel
theorem dX11_mend_90 : decode cX11_mend 90 = .ok (.invokevirtual 204, 3) := by decide +kernel
theorem dX11_mend_93 : decode cX11_mend 93 = .ok (.iload_n 2, 1) := by decide +kernel
theorem dX11_mend_94 : decode cX11_mend 94 = .ok (.ireturn, 1) := by decide +kernel
theorem dX11_nearest_0 : decode cX11_nearest 0 = .ok (.aload_n 0, 1) := by decide +kernel
theorem dX11_nearest_1 : decode cX11_nearest 1 = .ok (.iload_n 1, 1) := by decide +kernel
theorem dX11_nearest_2 : decode cX11_nearest 2 = .ok (.invokevirtual 130, 3) := by decide +kernel
theorem dX11_nearest_5 : decode cX11_nearest 5 = .ok (.ifCond .ne 5, 3) := by decide +kernel
theorem dX11_nearest_8 : decode cX11_nearest 8 = .ok (.iconst (-1), 1) := by decide +kernel
theorem dX11_nearest_9 : decode cX11_nearest 9 = .ok (.ireturn, 1) := by decide +kernel
theorem dX11_nearest_10 : decode cX11_nearest 10 = .ok (.bipush (-2), 2) := by decide +kernel
theorem dX11_nearest_12 : decode cX11_nearest 12 = .ok (.istore_n 2, 1) := by decide +kernel
theorem dX11_nearest_13 : decode cX11_nearest 13 = .ok (.ldc_w 303, 3) := by decide +kernel
theorem dX11_nearest_16 : decode cX11_nearest 16 = .ok (.istore_n 3, 1) := by decide +kernel
theorem dX11_nearest_17 : decode cX11_nearest 17 = .ok (.iconst 0, 1) := by decide +kernel
theorem dX11_nearest_18 : decode cX11_nearest 18 = .ok (.istore 4, 2) := by decide +kernel
theorem dX11_nearest_20 : decode cX11_nearest 20 = .ok (.iload 4, 2) := by decide +kernel
theorem dX11_nearest_22 : decode cX11_nearest 22 = .ok (.aload_n 0, 1) := by decide +kernel
theorem dX11_nearest_23 : decode cX11_nearest 23 = .ok (.getfield 23, 3) := by decide +kernel
theorem dX11_nearest_26 : decode cX11_nearest 26 = .ok (.getfield 158, 3) := by decide +kernel
theorem dX11_nearest_29 : decode cX11_nearest 29 = .ok (.if_icmp .ge 43, 3) := by decide +kernel
theorem dX11_nearest_32 : decode cX11_nearest 32 = .ok (.iload 4, 2) := by decide +kernel
theorem dX11_nearest_34 : decode cX11_nearest 34 = .ok (.iload_n 1, 1) := by decide +kernel
theorem dX11_nearest_35 : decode cX11_nearest 35 = .ok (.if_icmp .eq 31, 3) := by decide +kernel
theorem dX11_nearest_38 : decode cX11_nearest 38 = .ok (.aload_n 0, 1) := by decide +kernel
theorem dX11_nearest_39 : decode cX11_nearest 39 = .ok (.getfield 23, 3) := by decide +kernel
theorem dX11_nearest_42 : decode cX11_nearest 42 = .ok (.iload_n 1, 1) := by decide +kernel
theorem dX11_nearest_43 : decode cX11_nearest 43 = .ok (.iload 4, 2) := by decide +kernel
theorem dX11_nearest_45 : decode cX11_nearest 45 = .ok (.invokevirtual 284, 3) := by decide +kernel
theorem dX11_nearest_48 : decode cX11_nearest 48 = .ok (.iload_n 3, 1) := by decide +kernel
theorem dX11_nearest_49 : decode cX11_nearest 49 = .ok (.if_icmp .ge 17, 3) := by decide +kernel
theorem dX11_nearest_52 : decode cX11_nearest 52 = .ok (.aload_n 0, 1) := by decide +kernel
theorem dX11_nearest_53 : decode cX11_nearest 53 = .ok (.getfield 23, 3) := by decide +kernel
theorem dX11_nearest_56 : decode cX11_nearest 56 = .ok (.iload_n 1, 1) := by decide +kernel
theorem dX11_nearest_57 : decode cX11_nearest 57 = .ok (.iload 4, 2) := by decide +kernel
theorem dX11_nearest_59 : decode cX11_nearest 59 = .ok (.invokevirtual 284, 3) := by decide +kernel
theorem dX11_nearest_62 : decode cX11_nearest 62 = .ok (.istore_n 3, 1) := by decide +kernel
theorem dX11_nearest_63 : decode cX11_nearest 63 = .ok (.iload 4, 2) := by decide +kernel
theorem dX11_nearest_65 : decode cX11_nearest 65 = .ok (.istore_n 2, 1) := by decide +kernel
theorem dX11_nearest_66 : decode cX11_nearest 66 = .ok (.iinc 4 1, 3) := by decide +kernel
theorem dX11_nearest_69 : decode cX11_nearest 69 = .ok (.goto (-49), 3) := by decide +kernel
theorem dX11_nearest_72 : decode cX11_nearest 72 = .ok (.iload_n 2, 1) := by decide +kernel
theorem dX11_nearest_73 : decode cX11_nearest 73 = .ok (.ireturn, 1) := by decide +kernel
theorem dX11_nearestToJoined_0 : decode cX11_nearestToJoined 0 = .ok (.iconst 0, 1) := by decide +kernel
theorem dX11_nearestToJoined_1 : decode cX11_nearestToJoined 1 = .ok (.istore_n 2, 1) := by decide +kernel
theorem dX11_nearestToJoined_2 : decode cX11_nearestToJoined 2 = .ok (.ldc_w 303, 3) := by decide +kernel
theorem dX11_nearestToJoined_5 : decode cX11_nearestToJoined 5 = .ok (.istore_n 3, 1) := by decide +kernel
theorem dX11_nearestToJoined_6 : decode cX11_nearestToJoined 6 = .ok (.iconst 0, 1) := by decide +kernel
theorem dX11_nearestToJoined_7 : decode cX11_nearestToJoined 7 = .ok (.istore 4, 2) := by decide +kernel
theorem dX11_nearestToJoined_9 : decode cX11_nearestToJoined 9 = .ok (.iload 4, 2) := by decide +kernel
theorem dX11_nearestToJoined_11 : decode cX11_nearestToJoined 11 = .ok (.aload_n 0, 1) := by decide +kernel
theorem dX11_nearestToJoined_12 : decode cX11_nearestToJoined 12 = .ok (.getfield 23, 3) := by decide +kernel
theorem dX11_nearestToJoined_15 : decode cX11_nearestToJoined 15 = .ok (.getfield 158, 3) := by decide +kernel
theorem dX11_nearestToJoined_18 : decode cX11_nearestToJoined 18 = .ok (.if_icmp .ge 39, 3) := by decide +kernel
theorem dX11_nearestToJoined_21 : decode cX11_nearestToJoined 21 = .ok (.aload_n 0, 1) := by decide +kernel
theorem dX11_nearestToJoined_22 : decode cX11_nearestToJoined 22 = .ok (.iload 4, 2) := by decide +kernel
theorem dX11_nearestToJoined_24 : decode cX11_nearestToJoined 24 = .ok (.iload_n 1, 1) := by decide +kernel
theorem dX11_nearestToJoined_25 : decode cX11_nearestToJoined 25 = .ok (.invokevirtual 300, 3) := by decide +kernel
theorem dX11_nearestToJoined_28 : decode cX11_nearestToJoined 28 = .ok (.istore 5, 2) := by decide +kernel
theorem dX11_nearestToJoined_30 : decode cX11_nearestToJoined 30 = .ok (.iload_n 1, 1) := by decide +kernel
theorem dX11_nearestToJoined_31 : decode cX11_nearestToJoined 31 = .ok (.iload 4, 2) := by decide +kernel
theorem dX11_nearestToJoined_33 : decode cX11_nearestToJoined 33 = .ok (.ishr, 1) := by decide +kernel
theorem dX11_nearestToJoined_34 : decode cX11_nearestToJoined 34 = .ok (.iconst 1, 1) := by decide +kernel
theorem dX11_nearestToJoined_35 : decode cX11_nearestToJoined 35 = .ok (.iand, 1) := by decide +kernel
theorem dX11_nearestToJoined_36 : decode cX11_nearestToJoined 36 = .ok (.ifCond .ne 15, 3) := by decide +kernel
theorem dX11_nearestToJoined_39 : decode cX11_nearestToJoined 39 = .ok (.iload 5, 2) := by decide +kernel
theorem dX11_nearestToJoined_41 : decode cX11_nearestToJoined 41 = .ok (.iload_n 3, 1) := by decide +kernel
theorem dX11_nearestToJoined_42 : decode cX11_nearestToJoined 42 = .ok (.if_icmp .ge 9, 3) := by decide +kernel
theorem dX11_nearestToJoined_45 : decode cX11_nearestToJoined 45 = .ok (.iload 5, 2) := by decide +kernel
theorem dX11_nearestToJoined_47 : decode cX11_nearestToJoined 47 = .ok (.istore_n 3, 1) := by decide +kernel
theorem dX11_nearestToJoined_48 : decode cX11_nearestToJoined 48 = .ok (.iload 4, 2) := by decide +kernel
theorem dX11_nearestToJoined_50 : decode cX11_nearestToJoined 50 = .ok (.istore_n 2, 1) := by decide +kernel
theorem dX11_nearestToJoined_51 : decode cX11_nearestToJoined 51 = .ok (.iinc 4 1, 3) := by decide +kernel
theorem dX11_nearestToJoined_54 : decode cX11_nearestToJoined 54 = .ok (.goto (-45), 3) := by decide +kernel
theorem dX11_nearestToJoined_57 : decode cX11_nearestToJoined 57 = .ok (.iload_n 2, 1) := by decide +kernel
theorem dX11_nearestToJoined_58 : decode cX11_nearestToJoined 58 = .ok (.ireturn, 1) := by decide +kernel
theorem dX11_next_0 : decode cX11_next 0 = .ok (.aload_n 0, 1) := by decide +kernel
theorem dX11_next_1 : decode cX11_next 1 = .ok (.iload_n 1, 1) := by decide +kernel
theorem dX11_next_2 : decode cX11_next 2 = .ok (.invokevirtual 130, 3) := by decide +kernel
theorem dX11_next_5 : decode cX11_next 5 = .ok (.ifCond .eq 11, 3) := by decide +kernel
theorem dX11_next_8 : decode cX11_next 8 = .ok (.aload_n 0, 1) := by decide +kernel
theorem dX11_next_9 : decode cX11_next 9 = .ok (.iload_n 2, 1) := by decide +kernel
theorem dX11_next_10 : decode cX11_next 10 = .ok (.invokevirtual 130, 3) := by decide +kernel
theorem dX11_next_13 : decode cX11_next 13 = .ok (.ifCond .ne 5, 3) := by decide +kernel
theorem dX11_next_16 : decode cX11_next 16 = .ok (.iconst (-1), 1) := by decide +kernel
theorem dX11_next_17 : decode cX11_next 17 = .ok (.ireturn, 1) := by decide +kernel
theorem dX11_next_18 : decode cX11_next 18 = .ok (.aload_n 0, 1) := by decide +kernel
theorem dX11_next_19 : decode cX11_next 19 = .ok (.getfield 70, 3) := by decide +kernel
theorem dX11_next_22 : decode cX11_next 22 = .ok (.aload_n 0, 1) := by decide +kernel
theorem dX11_next_23 : decode cX11_next 23 = .ok (.getfield 23, 3) := by decide +kernel
theorem dX11_next_26 : decode cX11_next 26 = .ok (.iload_n 1, 1) := by decide +kernel
theorem dX11_next_27 : decode cX11_next 27 = .ok (.invokevirtual 287, 3) := by decide +kernel
theorem dX11_next_30 : decode cX11_next 30 = .ok (.aload_n 0, 1) := by decide +kernel
theorem dX11_next_31 : decode cX11_next 31 = .ok (.getfield 70, 3) := by decide +kernel
theorem dX11_next_34 : decode cX11_next 34 = .ok (.getfield 294, 3) := by decide +kernel
theorem dX11_next_37 : decode cX11_next 37 = .ok (.iload_n 2, 1) := by decide +kernel
theorem dX11_next_38 : decode cX11_next 38 = .ok (.iaload, 1) := by decide +kernel
theorem dX11_next_39 : decode cX11_next 39 = .ok (.ireturn, 1) := by decide +kernel
theorem dX7_keptApart_0 : decode cX7_keptApart 0 = .ok (.aload_n 0, 1) := by decide +kernel
theorem dX7_keptApart_1 : decode cX7_keptApart 1 = .ok (.iload_n 1, 1) := by decide +kernel
theorem dX7_keptApart_2 : decode cX7_keptApart 2 = .ok (.iconst 3, 1) := by decide +kernel
theorem dX7_keptApart_3 : decode cX7_keptApart 3 = .ok (.invokevirtual 34, 3) := by decide +kernel
theorem dX7_keptApart_6 : decode cX7_keptApart 6 = .ok (.aload_n 0, 1) := by decide +kernel
theorem dX7_keptApart_7 : decode cX7_keptApart 7 = .ok (.iload_n 2, 1) := by decide +kernel
theorem dX7_keptApart_8 : decode cX7_keptApart 8 = .ok (.iconst 3, 1) := by decide +kernel
theorem dX7_keptApart_9 : decode cX7_keptApart 9 = .ok (.invokevirtual 34, 3) := by decide +kernel
theorem dX7_keptApart_12 : decode cX7_keptApart 12 = .ok (.isub, 1) := by decide +kernel
theorem dX7_keptApart_13 : decode cX7_keptApart 13 = .ok (.invokestatic 38, 3) := by decide +kernel
theorem dX7_keptApart_16 : decode cX7_keptApart 16 = .ok (.ireturn, 1) := by decide +kernel
theorem dX2_mayStayAlone_0 : decode cX2_mayStayAlone 0 = .ok (.iconst 1, 1) := by decide +kernel
theorem dX2_mayStayAlone_1 : decode cX2_mayStayAlone 1 = .ok (.iload_n 1, 1) := by decide +kernel
theorem dX2_mayStayAlone_2 : decode cX2_mayStayAlone 2 = .ok (.ishl, 1) := by decide +kernel
theorem dX2_mayStayAlone_3 : decode cX2_mayStayAlone 3 = .ok (.iconst 1, 1) := by decide +kernel
theorem dX2_mayStayAlone_4 : decode cX2_mayStayAlone 4 = .ok (.isub, 1) := by decide +kernel
theorem dX2_mayStayAlone_5 : decode cX2_mayStayAlone 5 = .ok (.istore_n 3, 1) := by decide +kernel
theorem dX2_mayStayAlone_6 : decode cX2_mayStayAlone 6 = .ok (.iload_n 0, 1) := by decide +kernel
theorem dX2_mayStayAlone_7 : decode cX2_mayStayAlone 7 = .ok (.iconst 2, 1) := by decide +kernel
theorem dX2_mayStayAlone_8 : decode cX2_mayStayAlone 8 = .ok (.irem, 1) := by decide +kernel
theorem dX2_mayStayAlone_9 : decode cX2_mayStayAlone 9 = .ok (.iconst 1, 1) := by decide +kernel
theorem dX2_mayStayAlone_10 : decode cX2_mayStayAlone 10 = .ok (.if_icmp .ne 14, 3) := by decide +kernel
theorem dX2_mayStayAlone_13 : decode cX2_mayStayAlone 13 = .ok (.iload_n 2, 1) := by decide +kernel
theorem dX2_mayStayAlone_14 : decode cX2_mayStayAlone 14 = .ok (.iload_n 3, 1) := by decide +kernel
theorem dX2_mayStayAlone_15 : decode cX2_mayStayAlone 15 = .ok (.iand, 1) := by decide +kernel
theorem dX2_mayStayAlone_16 : decode cX2_mayStayAlone 16 = .ok (.iload_n 3, 1) := by decide +kernel
theorem dX2_mayStayAlone_17 : decode cX2_mayStayAlone 17 = .ok (.if_icmp .ne 7, 3) := by decide +kernel
theorem dX2_mayStayAlone_20 : decode cX2_mayStayAlone 20 = .ok (.iconst 1, 1) := by decide +kernel
theorem dX2_mayStayAlone_21 : decode cX2_mayStayAlone 21 = .ok (.goto 4, 3) := by decide +kernel
theorem dX2_mayStayAlone_24 : decode cX2_mayStayAlone 24 = .ok (.iconst 0, 1) := by decide +kernel
theorem dX2_mayStayAlone_25 : decode cX2_mayStayAlone 25 = .ok (.ireturn, 1) := by decide +kernel
theorem dX2_pairFrom_0 : decode cX2_pairFrom 0 = .ok (.iload_n 3, 1) := by decide +kernel
theorem dX2_pairFrom_1 : decode cX2_pairFrom 1 = .ok (.iload_n 2, 1) := by decide +kernel
theorem dX2_pairFrom_2 : decode cX2_pairFrom 2 = .ok (.if_icmp .ge 9, 3) := by decide +kernel
theorem dX2_pairFrom_5 : decode cX2_pairFrom 5 = .ok (.iload_n 3, 1) := by decide +kernel
theorem dX2_pairFrom_6 : decode cX2_pairFrom 6 = .ok (.bipush 6, 2) := by decide +kernel
theorem dX2_pairFrom_8 : decode cX2_pairFrom 8 = .ok (.if_icmp .lt 34, 3) := by decide +kernel
theorem dX2_pairFrom_11 : decode cX2_pairFrom 11 = .ok (.iload 5, 2) := by decide +kernel
theorem dX2_pairFrom_13 : decode cX2_pairFrom 13 = .ok (.aload_n 0, 1) := by decide +kernel
theorem dX2_pairFrom_14 : decode cX2_pairFrom 14 = .ok (.getfield 19, 3) := by decide +kernel
theorem dX2_pairFrom_17 : decode cX2_pairFrom 17 = .ok (.if_icmp .ge 24, 3) := by decide +kernel
theorem dX2_pairFrom_20 : decode cX2_pairFrom 20 = .ok (.aload_n 0, 1) := by decide +kernel
theorem dX2_pairFrom_21 : decode cX2_pairFrom 21 = .ok (.iload 5, 2) := by decide +kernel
theorem dX2_pairFrom_23 : decode cX2_pairFrom 23 = .ok (.putfield 19, 3) := by decide +kernel
theorem dX2_pairFrom_26 : decode cX2_pairFrom 26 = .ok (.aload_n 0, 1) := by decide +kernel
theorem dX2_pairFrom_27 : decode cX2_pairFrom 27 = .ok (.getfield 9, 3) := by decide +kernel
theorem dX2_pairFrom_30 : decode cX2_pairFrom 30 = .ok (.iconst 0, 1) := by decide +kernel
theorem dX2_pairFrom_31 : decode cX2_pairFrom 31 = .ok (.aload_n 0, 1) := by decide +kernel
theorem dX2_pairFrom_32 : decode cX2_pairFrom 32 = .ok (.getfield 15, 3) := by decide +kernel
theorem dX2_pairFrom_35 : decode cX2_pairFrom 35 = .ok (.iconst 0, 1) := by decide +kernel
theorem dX2_pairFrom_36 : decode cX2_pairFrom 36 = .ok (.bipush 6, 2) := by decide +kernel
theorem dX2_pairFrom_38 : decode cX2_pairFrom 38 = .ok (.invokestatic 27, 3) := by decide +kernel
theorem dX2_pairFrom_41 : decode cX2_pairFrom 41 = .ok (.return_, 1) := by decide +kernel
theorem dX2_pairFrom_42 : decode cX2_pairFrom 42 = .ok (.iload 4, 2) := by decide +kernel
theorem dX2_pairFrom_44 : decode cX2_pairFrom 44 = .ok (.iload_n 3, 1) := by decide +kernel
theorem dX2_pairFrom_45 : decode cX2_pairFrom 45 = .ok (.ishr, 1) := by decide +kernel
theorem dX2_pairFrom_46 : decode cX2_pairFrom 46 = .ok (.iconst 1, 1) := by decide +kernel
theorem dX2_pairFrom_47 : decode cX2_pairFrom 47 = .ok (.iand, 1) := by decide +kernel
theorem dX2_pairFrom_48 : decode cX2_pairFrom 48 = .ok (.iconst 1, 1) := by decide +kernel
theorem dX2_pairFrom_49 : decode cX2_pairFrom 49 = .ok (.if_icmp .ne 17, 3) := by decide +kernel
theorem dX2_pairFrom_52 : decode cX2_pairFrom 52 = .ok (.aload_n 0, 1) := by decide +kernel
theorem dX2_pairFrom_53 : decode cX2_pairFrom 53 = .ok (.aload_n 1, 1) := by decide +kernel
theorem dX2_pairFrom_54 : decode cX2_pairFrom 54 = .ok (.iload_n 2, 1) := by decide +kernel
theorem dX2_pairFrom_55 : decode cX2_pairFrom 55 = .ok (.iload_n 3, 1) := by decide +kernel
theorem dX2_pairFrom_56 : decode cX2_pairFrom 56 = .ok (.iconst 1, 1) := by decide +kernel
theorem dX2_pairFrom_57 : decode cX2_pairFrom 57 = .ok (.iadd, 1) := by decide +kernel
theorem dX2_pairFrom_58 : decode cX2_pairFrom 58 = .ok (.iload 4, 2) := by decide +kernel
theorem dX2_pairFrom_60 : decode cX2_pairFrom 60 = .ok (.iload 5, 2) := by decide +kernel
theorem dX2_pairFrom_62 : decode cX2_pairFrom 62 = .ok (.invokevirtual 23, 3) := by decide +kernel
theorem dX2_pairFrom_65 : decode cX2_pairFrom 65 = .ok (.return_, 1) := by decide +kernel
theorem dX2_pairFrom_66 : decode cX2_pairFrom 66 = .ok (.iload_n 3, 1) := by decide +kernel
theorem dX2_pairFrom_67 : decode cX2_pairFrom 67 = .ok (.iconst 1, 1) := by decide +kernel
theorem dX2_pairFrom_68 : decode cX2_pairFrom 68 = .ok (.iadd, 1) := by decide +kernel
theorem dX2_pairFrom_69 : decode cX2_pairFrom 69 = .ok (.istore 6, 2) := by decide +kernel
theorem dX2_pairFrom_71 : decode cX2_pairFrom 71 = .ok (.iload 6, 2) := by decide +kernel
theorem dX2_pairFrom_73 : decode cX2_pairFrom 73 = .ok (.iload_n 2, 1) := by decide +kernel
theorem dX2_pairFrom_74 : decode cX2_pairFrom 74 = .ok (.if_icmp .ge 76, 3) := by decide +kernel
theorem dX2_pairFrom_77 : decode cX2_pairFrom 77 = .ok (.iload 6, 2) := by decide +kernel
theorem dX2_pairFrom_79 : decode cX2_pairFrom 79 = .ok (.bipush 6, 2) := by decide +kernel
theorem dX2_pairFrom_81 : decode cX2_pairFrom 81 = .ok (.if_icmp .ge 69, 3) := by decide +kernel
theorem dX2_pairFrom_84 : decode cX2_pairFrom 84 = .ok (.iload 4, 2) := by decide +kernel
theorem dX2_pairFrom_86 : decode cX2_pairFrom 86 = .ok (.iload 6, 2) := by decide +kernel
theorem dX2_pairFrom_88 : decode cX2_pairFrom 88 = .ok (.ishr, 1) := by decide +kernel
theorem dX2_pairFrom_89 : decode cX2_pairFrom 89 = .ok (.iconst 1, 1) := by decide +kernel
theorem dX2_pairFrom_90 : decode cX2_pairFrom 90 = .ok (.iand, 1) := by decide +kernel
theorem dX2_pairFrom_91 : decode cX2_pairFrom 91 = .ok (.ifCond .ne 53, 3) := by decide +kernel
theorem dX2_pairFrom_94 : decode cX2_pairFrom 94 = .ok (.aload_n 0, 1) := by decide +kernel
theorem dX2_pairFrom_95 : decode cX2_pairFrom 95 = .ok (.getfield 9, 3) := by decide +kernel
theorem dX2_pairFrom_98 : decode cX2_pairFrom 98 = .ok (.iload_n 3, 1) := by decide +kernel
theorem dX2_pairFrom_99 : decode cX2_pairFrom 99 = .ok (.iload 6, 2) := by decide +kernel
theorem dX2_pairFrom_101 : decode cX2_pairFrom 101 = .ok (.iastore, 1) := by decide +kernel
theorem dX2_pairFrom_102 : decode cX2_pairFrom 102 = .ok (.aload_n 0, 1) := by decide +kernel
theorem dX2_pairFrom_103 : decode cX2_pairFrom 103 = .ok (.getfield 9, 3) := by decide +kernel
theorem dX2_pairFrom_106 : decode cX2_pairFrom 106 = .ok (.iload 6, 2) := by decide +kernel
theorem dX2_pairFrom_108 : decode cX2_pairFrom 108 = .ok (.iload_n 3, 1) := by decide +kernel
theorem dX2_pairFrom_109 : decode cX2_pairFrom 109 = .ok (.iastore, 1) := by decide +kernel
theorem dX2_pairFrom_110 : decode cX2_pairFrom 110 = .ok (.iload 4, 2) := by decide +kernel
theorem dX2_pairFrom_112 : decode cX2_pairFrom 112 = .ok (.iconst 1, 1) := by decide +kernel
theorem dX2_pairFrom_113 : decode cX2_pairFrom 113 = .ok (.iload_n 3, 1) := by decide +kernel
theorem dX2_pairFrom_114 : decode cX2_pairFrom 114 = .ok (.ishl, 1) := by decide +kernel
theorem dX2_pairFrom_115 : decode cX2_pairFrom 115 = .ok (.ior, 1) := by decide +kernel
theorem dX2_pairFrom_116 : decode cX2_pairFrom 116 = .ok (.iconst 1, 1) := by decide +kernel
theorem dX2_pairFrom_117 : decode cX2_pairFrom 117 = .ok (.iload 6, 2) := by decide +kernel
theorem dX2_pairFrom_119 : decode cX2_pairFrom 119 = .ok (.ishl, 1) := by decide +kernel
theorem dX2_pairFrom_120 : decode cX2_pairFrom 120 = .ok (.ior, 1) := by decide +kernel
theorem dX2_pairFrom_121 : decode cX2_pairFrom 121 = .ok (.istore 7, 2) := by decide +kernel
theorem dX2_pairFrom_123 : decode cX2_pairFrom 123 = .ok (.aload_n 0, 1) := by decide +kernel
theorem dX2_pairFrom_124 : decode cX2_pairFrom 124 = .ok (.aload_n 1, 1) := by decide +kernel
theorem dX2_pairFrom_125 : decode cX2_pairFrom 125 = .ok (.iload_n 2, 1) := by decide +kernel
theorem dX2_pairFrom_126 : decode cX2_pairFrom 126 = .ok (.iload_n 3, 1) := by decide +kernel
theorem dX2_pairFrom_127 : decode cX2_pairFrom 127 = .ok (.iconst 1, 1) := by decide +kernel
theorem dX2_pairFrom_128 : decode cX2_pairFrom 128 = .ok (.iadd, 1) := by decide +kernel
theorem dX2_pairFrom_129 : decode cX2_pairFrom 129 = .ok (.iload 7, 2) := by decide +kernel
theorem dX2_pairFrom_131 : decode cX2_pairFrom 131 = .ok (.iload 5, 2) := by decide +kernel
theorem dX2_pairFrom_133 : decode cX2_pairFrom 133 = .ok (.aload_n 1, 1) := by decide +kernel
theorem dX2_pairFrom_134 : decode cX2_pairFrom 134 = .ok (.iload_n 3, 1) := by decide +kernel
theorem dX2_pairFrom_135 : decode cX2_pairFrom 135 = .ok (.iload 6, 2) := by decide +kernel
theorem dX2_pairFrom_137 : decode cX2_pairFrom 137 = .ok (.invokevirtual 33, 3) := by decide +kernel
theorem dX2_pairFrom_140 : decode cX2_pairFrom 140 = .ok (.iadd, 1) := by decide +kernel
theorem dX2_pairFrom_141 : decode cX2_pairFrom 141 = .ok (.invokevirtual 23, 3) := by decide +kernel
theorem dX2_pairFrom_144 : decode cX2_pairFrom 144 = .ok (.iinc 6 1, 3) := by decide +kernel
theorem dX2_pairFrom_147 : decode cX2_pairFrom 147 = .ok (.goto (-76), 3) := by decide +kernel
theorem dX2_pairFrom_150 : decode cX2_pairFrom 150 = .ok (.iload_n 2, 1) := by decide +kernel
theorem dX2_pairFrom_151 : decode cX2_pairFrom 151 = .ok (.iload_n 3, 1) := by decide +kernel
theorem dX2_pairFrom_152 : decode cX2_pairFrom 152 = .ok (.iload 4, 2) := by decide +kernel
theorem dX2_pairFrom_154 : decode cX2_pairFrom 154 = .ok (.invokestatic 39, 3) := by decide +kernel
theorem dX2_pairFrom_157 : decode cX2_pairFrom 157 = .ok (.ifCond .eq 24, 3) := by decide +kernel
theorem dX2_pairFrom_160 : decode cX2_pairFrom 160 = .ok (.aload_n 0, 1) := by decide +kernel
theorem dX2_pairFrom_161 : decode cX2_pairFrom 161 = .ok (.getfield 9, 3) := by decide +kernel
theorem dX2_pairFrom_164 : decode cX2_pairFrom 164 = .ok (.iload_n 3, 1) := by decide +kernel
theorem dX2_pairFrom_165 : decode cX2_pairFrom 165 = .ok (.bipush (-2), 2) := by decide +kernel
theorem dX2_pairFrom_167 : decode cX2_pairFrom 167 = .ok (.iastore, 1) := by decide +kernel
theorem dX2_pairFrom_168 : decode cX2_pairFrom 168 = .ok (.aload_n 0, 1) := by decide +kernel
theorem dX2_pairFrom_169 : decode cX2_pairFrom 169 = .ok (.aload_n 1, 1) := by decide +kernel
theorem dX2_pairFrom_170 : decode cX2_pairFrom 170 = .ok (.iload_n 2, 1) := by decide +kernel
theorem dX2_pairFrom_171 : decode cX2_pairFrom 171 = .ok (.iload_n 3, 1) := by decide +kernel
theorem dX2_pairFrom_172 : decode cX2_pairFrom 172 = .ok (.iconst 1, 1) := by decide +kernel
theorem dX2_pairFrom_173 : decode cX2_pairFrom 173 = .ok (.iadd, 1) := by decide +kernel
theorem dX2_pairFrom_174 : decode cX2_pairFrom 174 = .ok (.iload 4, 2) := by decide +kernel
theorem dX2_pairFrom_176 : decode cX2_pairFrom 176 = .ok (.iload 5, 2) := by decide +kernel
theorem dX2_pairFrom_178 : decode cX2_pairFrom 178 = .ok (.invokevirtual 23, 3) := by decide +kernel
theorem dX2_pairFrom_181 : decode cX2_pairFrom 181 = .ok (.return_, 1) := by decide +kernel
theorem dX2_search_0 : decode cX2_search 0 = .ok (.aload_n 0, 1) := by decide +kernel
theorem dX2_search_1 : decode cX2_search 1 = .ok (.ldc 18, 2) := by decide +kernel
theorem dX2_search_3 : decode cX2_search 3 = .ok (.putfield 19, 3) := by decide +kernel
theorem dX2_search_6 : decode cX2_search 6 = .ok (.aload_n 0, 1) := by decide +kernel
theorem dX2_search_7 : decode cX2_search 7 = .ok (.aload_n 1, 1) := by decide +kernel
theorem dX2_search_8 : decode cX2_search 8 = .ok (.iload_n 2, 1) := by decide +kernel
theorem dX2_search_9 : decode cX2_search 9 = .ok (.iconst 0, 1) := by decide +kernel
theorem dX2_search_10 : decode cX2_search 10 = .ok (.iconst 0, 1) := by decide +kernel
theorem dX2_search_11 : decode cX2_search 11 = .ok (.iconst 0, 1) := by decide +kernel
theorem dX2_search_12 : decode cX2_search 12 = .ok (.invokevirtual 23, 3) := by decide +kernel
theorem dX2_search_15 : decode cX2_search 15 = .ok (.return_, 1) := by decide +kernel
theorem dX11_paired_0 : decode cX11_paired 0 = .ok (.iload_n 1, 1) := by decide +kernel
theorem dX11_paired_1 : decode cX11_paired 1 = .ok (.iconst (-1), 1) := by decide +kernel
theorem dX11_paired_2 : decode cX11_paired 2 = .ok (.if_icmp .eq 13, 3) := by decide +kernel
theorem dX11_paired_5 : decode cX11_paired 5 = .ok (.aload_n 0, 1) := by decide +kernel
theorem dX11_paired_6 : decode cX11_paired 6 = .ok (.iload_n 1, 1) := by decide +kernel
theorem dX11_paired_7 : decode cX11_paired 7 = .ok (.invokevirtual 130, 3) := by decide +kernel
theorem dX11_paired_10 : decode cX11_paired 10 = .ok (.ifCond .ne 5, 3) := by decide +kernel
theorem dX11_paired_13 : decode cX11_paired 13 = .ok (.iconst (-1), 1) := by decide +kernel
theorem dX11_paired_14 : decode cX11_paired 14 = .ok (.ireturn, 1) := by decide +kernel
theorem dX11_paired_15 : decode cX11_paired 15 = .ok (.aload_n 0, 1) := by decide +kernel
theorem dX11_paired_16 : decode cX11_paired 16 = .ok (.getfield 84, 3) := by decide +kernel
theorem dX11_paired_19 : decode cX11_paired 19 = .ok (.aload_n 0, 1) := by decide +kernel
theorem dX11_paired_20 : decode cX11_paired 20 = .ok (.getfield 30, 3) := by decide +kernel
theorem dX11_paired_23 : decode cX11_paired 23 = .ok (.aload_n 0, 1) := by decide +kernel
theorem dX11_paired_24 : decode cX11_paired 24 = .ok (.getfield 23, 3) := by decide +kernel
theorem dX11_paired_27 : decode cX11_paired 27 = .ok (.getfield 158, 3) := by decide +kernel
theorem dX11_paired_30 : decode cX11_paired 30 = .ok (.invokevirtual 313, 3) := by decide +kernel
theorem dX11_paired_33 : decode cX11_paired 33 = .ok (.iload_n 1, 1) := by decide +kernel
theorem dX11_paired_34 : decode cX11_paired 34 = .ok (.iconst (-1), 1) := by decide +kernel
theorem dX11_paired_35 : decode cX11_paired 35 = .ok (.if_icmp .ne 13, 3) := by decide +kernel
theorem dX11_paired_38 : decode cX11_paired 38 = .ok (.aload_n 0, 1) := by decide +kernel
theorem dX11_paired_39 : decode cX11_paired 39 = .ok (.getfield 84, 3) := by decide +kernel
theorem dX11_paired_42 : decode cX11_paired 42 = .ok (.getfield 315, 3) := by decide +kernel
theorem dX11_paired_45 : decode cX11_paired 45 = .ok (.goto 12, 3) := by decide +kernel
theorem dX11_paired_48 : decode cX11_paired 48 = .ok (.aload_n 0, 1) := by decide +kernel
theorem dX11_paired_49 : decode cX11_paired 49 = .ok (.getfield 84, 3) := by decide +kernel
theorem dX11_paired_52 : decode cX11_paired 52 = .ok (.getfield 318, 3) := by decide +kernel
theorem dX11_paired_55 : decode cX11_paired 55 = .ok (.iload_n 1, 1) := by decide +kernel
theorem dX11_paired_56 : decode cX11_paired 56 = .ok (.iaload, 1) := by decide +kernel
theorem dX11_paired_57 : decode cX11_paired 57 = .ok (.ireturn, 1) := by decide +kernel
section WK3
variable {p : Program} {l : Launch} {e : Env} {s : State} {m : MethodId} {args : Array Value} {below : List Frame} {meth : Method} {c : Code} {ω : WW}

set_option maxHeartbeats 4000000 in
set_option maxRecDepth 100000 in
theorem wX11_lasts_s21 (hW : FWC ω) (C : Cx ω p s m args c cX11_lasts 4 RX11) (hr : meth.sig.returnType = some .int) (hk : meth.locks = false) {rr : Int32} {μo : Mem} {x1 : Int32} {x2 : Int32} {rec : Int32 → Mem → Option (Int32 × Mem)} (hrec : ∀ (z2 : Int32) (ν : Mem) (H : Heap) (locs : List Loc) (ls : Array Slot), Hd ω ν H → FS ω s H locs → lv_has ls 4 [(0, .ref (wB ω + 1)), (1, .int x1), (2, .int z2)] → rec z2 ν = some (rr, μo) → W p l e (rmd 6) s m args below meth c H locs 0 0 (MQ below (QR ω (some (.int rr)) μo) args s 0 0 (wA ω)) (F0 m 21 ls [])) {K : Mem → Option (Int32 × Mem)} (hK : ∀ (ν : Mem) (H : Heap) (locs : List Loc) (ls : Array Slot), Hd ω ν H → FS ω s H locs → lv_has ls 4 [(0, .ref (wB ω + 1)), (1, .int x1)] → K ν = some (rr, μo) → W p l e (rmd 6) s m args below meth c H locs 0 0 (MQ below (QR ω (some (.int rr)) μo) args s 0 0 (wA ω)) (F0 m 78 ls [])) {μ : Mem} {H : Heap} {locs : List Loc} {ls : Array Slot} (hH : Hd ω μ H) (hS : FS ω s H locs) (hl : lv_has ls 4 [(0, .ref (wB ω + 1)), (1, .int x1), (2, .int x2)]) (h : fX11_lasts_s21 rec K x1 x2 μ = some (rr, μo)) : W p l e (rmd 6) s m args below meth c H locs 0 0 (MQ below (QR ω (some (.int rr)) μo) args s 0 0 (wA ω)) (F0 m 21 ls []) := by
  have hx := C.1
  have hb := C.2.1
  unfold fX11_lasts_s21 at h
  refine lv_iload_n hx hb dX11_lasts_21 rfl (lv_at hl 2 rfl) ?_
  refine lv_aload_n hx hb dX11_lasts_22 rfl (lv_at hl 0 rfl) ?_
  refine g_476 (i := 17) C hH (jC_1 hW) rfl dX11_lasts_23 ?_
  refine g_265 C hH (jC_17 hW) dX11_lasts_26 ?_
  refine lv_icmp_ge (tgt := 78) hx hb dX11_lasts_29 (by decide) (fun hc => ?_) (fun hc => ?_)
  · have h := ite_t hc h
    exact hK _ H locs ls hH hS (lv_sub hl [0, 1] rfl) h
  · have h := ite_f hc h
    refine lv_iconst (v := 0) hx hb dX11_lasts_32 (by decide) ?_
    refine lv_aload_n hx hb dX11_lasts_33 rfl (lv_at hl 0 rfl) ?_
    refine lv_aload_n hx hb dX11_lasts_34 rfl (lv_at hl 0 rfl) ?_
    refine g_478 (i := 26) C hH (jC_1 hW) rfl dX11_lasts_35 ?_
    refine lv_iload_n hx hb dX11_lasts_38 rfl (lv_at hl 2 rfl) ?_
    obtain ⟨r5, μ4, e3, h⟩ := b2_e h
    refine cVi (as := [.ref (wB ω + 26), .int x2]) (rest := [.int 0]) (c_X11_coalsNeeded hW (sC_26 hW) e3) C hl.1 hH hS rfl (jC_1 hW) rfl wd_19 wd_954 mw_X11_coalsNeeded wd_952 rfl (rm_ok (by decide) (by decide)) (Nat.le_of_ble_eq_true rfl) ⟨Nat.zero_le _, Nat.zero_le _⟩ (by decide) dX11_lasts_39 (fun H locs hH hS => ?_)
    refine h_mmax C hl.1 wd_977 (rest := []) (Nat.le_of_ble_eq_true rfl) (Nat.le_of_ble_eq_true rfl) ⟨Nat.zero_le _, Nat.zero_le _⟩ dX11_lasts_42 ?_
    refine h_topi (y := jmax 0 r5) rfl ?_
    obtain ⟨y6, e7, h⟩ := bd_e h
    refine h_topi e7 ?_
    refine lv_istore_n (lv' := [(3, .int y6), (0, .ref (wB ω + 1)), (1, .int x1), (2, .int x2)]) hx hb dX11_lasts_45 rfl hl (by decide) rfl (fun ls hl => ?_)
    refine lv_iload_n hx hb dX11_lasts_46 rfl (lv_at hl 0 rfl) ?_
    refine lv_aload_n hx hb dX11_lasts_47 rfl (lv_at hl 1 rfl) ?_
    refine g_478 (i := 26) C hH (jC_1 hW) rfl dX11_lasts_48 ?_
    refine g_328 C hH (jC_26 hW) dX11_lasts_51 ?_
    refine lv_icmp_le (tgt := 59) hx hb dX11_lasts_54 (by decide) (fun hc => ?_) (fun hc => ?_)
    · have h := ite_t hc h
      refine lv_aload_n hx hb dX11_lasts_59 rfl (lv_at hl 1 rfl) ?_
      refine g_476 (i := 17) C hH (jC_1 hW) rfl dX11_lasts_60 ?_
      refine lv_aload_n hx hb dX11_lasts_63 rfl (lv_at hl 1 rfl) ?_
      refine g_478 (i := 26) C hH (jC_1 hW) rfl dX11_lasts_64 ?_
      refine lv_iload_n hx hb dX11_lasts_67 rfl (lv_at hl 3 rfl) ?_
      refine lv_iload_n hx hb dX11_lasts_68 rfl (lv_at hl 0 rfl) ?_
      obtain ⟨μ9, e8, h⟩ := b1_e h
      refine cVv (as := [.ref (wB ω + 26), .int x2, .int y6]) (rest := []) (c_X3_burnIn (qC_17 hW) (sC_26 hW) e8) C hl.1 hH hS rfl (jC_17 hW) rfl wd_835 wd_834 mw_X3_burnIn wd_833 rfl (rm_ok (by decide) (by decide)) (Nat.le_of_ble_eq_true rfl) ⟨Nat.zero_le _, Nat.zero_le _⟩ (by decide) dX11_lasts_69 (fun H locs hH hS => ?_)
      refine lv_iinc (v := x2 + 1) (lv' := [(2, .int (x2 + 1)), (3, .int y6), (0, .ref (wB ω + 1)), (1, .int x1)]) hx hb dX11_lasts_72 hl (k := 3) rfl rfl (by decide) rfl (fun ls hl => ?_)
      refine lv_goto (tgt := 21) hx hb dX11_lasts_75 (by decide) ?_
      exact hrec _ _ H locs ls hH hS (lv_sub hl [2, 3, 0] rfl) h
    · have h := ite_f hc h
      refine lv_iload_n hx hb dX11_lasts_57 rfl (lv_at hl 2 rfl) ?_
      exact h_iret C hr hk hH hS rfl (by cases h; rfl) dX11_lasts_58
theorem wX11_lasts_l21 (hW : FWC ω) (C : Cx ω p s m args c cX11_lasts 4 RX11) (hr : meth.sig.returnType = some .int) (hk : meth.locks = false) {rr : Int32} {μo : Mem} {x1 : Int32} {K : Mem → Option (Int32 × Mem)} (hK : ∀ (ν : Mem) (H : Heap) (locs : List Loc) (ls : Array Slot), Hd ω ν H → FS ω s H locs → lv_has ls 4 [(0, .ref (wB ω + 1)), (1, .int x1)] → K ν = some (rr, μo) → W p l e (rmd 6) s m args below meth c H locs 0 0 (MQ below (QR ω (some (.int rr)) μo) args s 0 0 (wA ω)) (F0 m 78 ls [])) : ∀ (n : Nat) (x2 : Int32) (μ : Mem) (H : Heap) (locs : List Loc) (ls : Array Slot), Hd ω μ H → FS ω s H locs → lv_has ls 4 [(0, .ref (wB ω + 1)), (1, .int x1), (2, .int x2)] → fX11_lasts_l21 K x1 n x2 μ = some (rr, μo) → W p l e (rmd 6) s m args below meth c H locs 0 0 (MQ below (QR ω (some (.int rr)) μo) args s 0 0 (wA ω)) (F0 m 21 ls []) := by
  intro n
  induction n with
  | zero => intro x2 μ H locs ls hH hS hl h; cases h
  | succ n ih => intro x2 μ H locs ls hH hS hl h; exact wX11_lasts_s21 hW C hr hk ih hK hH hS hl h
set_option maxHeartbeats 4000000 in
set_option maxRecDepth 100000 in
theorem wX11_lasts_s13 (hW : FWC ω) (C : Cx ω p s m args c cX11_lasts 4 RX11) (hr : meth.sig.returnType = some .int) (hk : meth.locks = false) {rr : Int32} {μo : Mem} {x1 : Int32} {rec : Int32 → Mem → Option (Int32 × Mem)} (hrec : ∀ (z1 : Int32) (ν : Mem) (H : Heap) (locs : List Loc) (ls : Array Slot), Hd ω ν H → FS ω s H locs → lv_has ls 4 [(0, .ref (wB ω + 1)), (1, .int z1)] → rec z1 ν = some (rr, μo) → W p l e (rmd 6) s m args below meth c H locs 0 0 (MQ below (QR ω (some (.int rr)) μo) args s 0 0 (wA ω)) (F0 m 13 ls [])) {μ : Mem} {H : Heap} {locs : List Loc} {ls : Array Slot} (hH : Hd ω μ H) (hS : FS ω s H locs) (hl : lv_has ls 4 [(0, .ref (wB ω + 1)), (1, .int x1)]) (h : fX11_lasts_s13 rec x1 μ = some (rr, μo)) : W p l e (rmd 6) s m args below meth c H locs 0 0 (MQ below (QR ω (some (.int rr)) μo) args s 0 0 (wA ω)) (F0 m 13 ls []) := by
  have hx := C.1
  have hb := C.2.1
  unfold fX11_lasts_s13 at h
  refine lv_iload_n hx hb dX11_lasts_13 rfl (lv_at hl 1 rfl) ?_
  refine lv_bipush (v := 60) hx hb dX11_lasts_14 (by decide) ?_
  refine lv_icmp_ge (tgt := 108) hx hb dX11_lasts_16 (by decide) (fun hc => ?_) (fun hc => ?_)
  · have h := ite_t hc h
    refine lv_bipush (v := 60) hx hb dX11_lasts_108 (by decide) ?_
    exact h_iret C hr hk hH hS rfl (by cases h; rfl) dX11_lasts_110
  · have h := ite_f hc h
    refine lv_iconst (v := 0) hx hb dX11_lasts_19 (by decide) ?_
    refine lv_istore_n (lv' := [(2, .int 0), (0, .ref (wB ω + 1)), (1, .int x1)]) hx hb dX11_lasts_20 rfl hl (by decide) rfl (fun ls hl => ?_)
    refine wX11_lasts_l21 hW C hr hk (fun μ10 H locs ls hH hS hl h => ?_) FU _ _ H locs ls hH hS (lv_sub hl [1, 2, 0] rfl) h
    refine lv_aload_n hx hb dX11_lasts_78 rfl (lv_at hl 0 rfl) ?_
    refine g_476 (i := 17) C hH (jC_1 hW) rfl dX11_lasts_79 ?_
    refine lv_aload_n hx hb dX11_lasts_82 rfl (lv_at hl 0 rfl) ?_
    refine g_478 (i := 26) C hH (jC_1 hW) rfl dX11_lasts_83 ?_
    obtain ⟨μ12, e11, h⟩ := b1_e h
    refine cVv (as := [.ref (wB ω + 26)]) (rest := []) (c_X3_passDay (qC_17 hW) (sC_26 hW) e11) C hl.1 hH hS rfl (jC_17 hW) rfl wd_862 wd_861 mw_X3_passDay wd_860 rfl (rm_ok (by decide) (by decide)) (Nat.le_of_ble_eq_true rfl) ⟨Nat.zero_le _, Nat.zero_le _⟩ (by decide) dX11_lasts_86 (fun H locs hH hS => ?_)
    refine lv_aload_n hx hb dX11_lasts_89 rfl (lv_at hl 0 rfl) ?_
    refine g_478 (i := 26) C hH (jC_1 hW) rfl dX11_lasts_90 ?_
    refine lv_dup hx hb dX11_lasts_93 rfl ?_
    refine g_327 C hH (jC_26 hW) dX11_lasts_94 ?_
    refine lv_iconst (v := 1) hx hb dX11_lasts_97 (by decide) ?_
    refine lv_iadd hx hb dX11_lasts_98 ?_
    obtain ⟨μ13, e14, h⟩ := bd_e h
    refine p_327 C hH hS (jC_26 hW) dX11_lasts_99 (fun H locs hH hS => ?_)
    have hH := Hd.to e14 hH
    refine lv_iinc (v := x1 + 1) (lv' := [(1, .int (x1 + 1)), (0, .ref (wB ω + 1))]) hx hb dX11_lasts_102 hl (k := 1) rfl rfl (by decide) rfl (fun ls hl => ?_)
    refine lv_goto (tgt := 13) hx hb dX11_lasts_105 (by decide) ?_
    exact hrec _ _ H locs ls hH hS (lv_sub hl [1, 0] rfl) h
theorem wX11_lasts_l13 (hW : FWC ω) (C : Cx ω p s m args c cX11_lasts 4 RX11) (hr : meth.sig.returnType = some .int) (hk : meth.locks = false) {rr : Int32} {μo : Mem} : ∀ (n : Nat) (x1 : Int32) (μ : Mem) (H : Heap) (locs : List Loc) (ls : Array Slot), Hd ω μ H → FS ω s H locs → lv_has ls 4 [(0, .ref (wB ω + 1)), (1, .int x1)] → fX11_lasts_l13 n x1 μ = some (rr, μo) → W p l e (rmd 6) s m args below meth c H locs 0 0 (MQ below (QR ω (some (.int rr)) μo) args s 0 0 (wA ω)) (F0 m 13 ls []) := by
  intro n
  induction n with
  | zero => intro x1 μ H locs ls hH hS hl h; cases h
  | succ n ih => intro x1 μ H locs ls hH hS hl h; exact wX11_lasts_s13 hW C hr hk ih hH hS hl h
set_option maxHeartbeats 4000000 in
set_option maxRecDepth 100000 in
theorem wX11_lasts_e (hW : FWC ω) (C : Cx ω p s m args c cX11_lasts 4 RX11) (hr : meth.sig.returnType = some .int) (hk : meth.locks = false) {rr : Int32} {μo : Mem} {μ : Mem} {H : Heap} {locs : List Loc} {ls : Array Slot} (hH : Hd ω μ H) (hS : FS ω s H locs) (hl : lv_has ls 4 [(0, .ref (wB ω + 1))]) (h : fX11_lasts μ = some (rr, μo)) : W p l e (rmd 6) s m args below meth c H locs 0 0 (MQ below (QR ω (some (.int rr)) μo) args s 0 0 (wA ω)) (F0 m 0 ls []) := by
  have hx := C.1
  have hb := C.2.1
  unfold fX11_lasts at h
  refine lv_aload_n hx hb dX11_lasts_0 rfl (lv_at hl 0 rfl) ?_
  refine g_478 (i := 26) C hH (jC_1 hW) rfl dX11_lasts_1 ?_
  refine lv_aload_n hx hb dX11_lasts_4 rfl (lv_at hl 0 rfl) ?_
  refine g_477 (i := 24) C hH (jC_1 hW) rfl dX11_lasts_5 ?_
  obtain ⟨μ2, e1, h⟩ := b1_e h
  refine cVv (as := [.ref (wB ω + 24)]) (rest := []) (c_X7_copyFrom (sC_26 hW) (sC_24 hW) e1) C hl.1 hH hS rfl (jC_26 hW) rfl wd_829 wd_828 mw_X7_copyFrom wd_919 rfl (rm_ok (by decide) (by decide)) (Nat.le_of_ble_eq_true rfl) ⟨Nat.zero_le _, Nat.zero_le _⟩ (by decide) dX11_lasts_8 (fun H locs hH hS => ?_)
  refine lv_iconst (v := 0) hx hb dX11_lasts_11 (by decide) ?_
  refine lv_istore_n (lv' := [(1, .int 0), (0, .ref (wB ω + 1))]) hx hb dX11_lasts_12 rfl hl (by decide) rfl (fun ls hl => ?_)
  exact wX11_lasts_l13 hW C hr hk FU _ _ H locs ls hH hS (lv_sub hl [1, 0] rfl) h
theorem c_X11_lasts {l : Launch} {ω : WW} (hW : FWC ω) {μ : Mem} {rr : Int32} {μo : Mem} (h : fX11_lasts μ = some (rr, μo)) : Con l yX11_lasts cX11_lasts 4 (some .int) 6 ω [.ref (wB ω + 1)] μ (some (.int rr)) μo :=
  con_of (by decide) (Nat.le_of_ble_eq_true rfl) (fun p e s m args below meth c ls C hr hk hl hH hS => wX11_lasts_e hW C hr hk hH hS (lv_sub hl [0] rfl) h)
set_option maxHeartbeats 4000000 in
set_option maxRecDepth 100000 in
theorem wX9_isAtLeast_e {q0 : Nat} (hW : FWC ω) (hq0 : IsS ω q0) (C : Cx ω p s m args c cX9_isAtLeast 4 RX9) (hr : meth.sig.returnType = some .boolean) (hk : meth.locks = false) {rr : Int32} {μ : Mem} {x1 : Int32} {x2 : Int32} {x3 : Int32} {H : Heap} {locs : List Loc} {ls : Array Slot} (hH : Hd ω μ H) (hS : FS ω s H locs) (hl : lv_has ls 4 [(0, .ref (wB ω + q0)), (1, .int x1), (2, .int x2), (3, .int x3)]) (h : fX9_isAtLeast q0 x1 x2 x3 μ = some rr) : W p l e (rmd 2) s m args below meth c H locs 0 0 (MQ below (QR ω (some (.int rr)) μ) args s 0 0 (wA ω)) (F0 m 0 ls []) := by
  obtain ⟨X, hE0⟩ := hW.2.2
  have hE := hE0 s C.2.2.2.2.2.2.1
  have hx := C.1
  have hb := C.2.1
  unfold fX9_isAtLeast at h
  refine lv_iload_n hx hb dX9_isAtLeast_0 rfl (lv_at hl 2 rfl) ?_
  refine lv_if_lt (tgt := 27) hx hb dX9_isAtLeast_1 (by decide) (fun hc => ?_) (fun hc => ?_)
  · have h := ite_t hc h
    refine lv_iconst (v := 0) hx hb dX9_isAtLeast_27 (by decide) ?_
    exact h_zret (y := 0) C hr hk hH hS rfl (by cases h; rfl) dX9_isAtLeast_28
  · have h := ite_f hc h
    refine lv_iload_n hx hb dX9_isAtLeast_4 rfl (lv_at hl 2 rfl) ?_
    refine lv_iconst (v := 4) hx hb dX9_isAtLeast_5 (by decide) ?_
    refine lv_icmp_ge (tgt := 27) hx hb dX9_isAtLeast_6 (by decide) (fun hc => ?_) (fun hc => ?_)
    · have h := ite_t hc h
      refine lv_iconst (v := 0) hx hb dX9_isAtLeast_27 (by decide) ?_
      exact h_zret (y := 0) C hr hk hH hS rfl (by cases h; rfl) dX9_isAtLeast_28
    · have h := ite_f hc h
      refine lv_aload_n hx hb dX9_isAtLeast_9 rfl (lv_at hl 0 rfl) ?_
      refine lv_iload_n hx hb dX9_isAtLeast_10 rfl (lv_at hl 1 rfl) ?_
      refine h_xMARK hE C hS dX9_isAtLeast_11 ?_
      refine lv_iload_n hx hb dX9_isAtLeast_14 rfl (lv_at hl 2 rfl) ?_
      obtain ⟨b1, h⟩ := gd_e h
      refine h_xald_xMARK hE C hS b1 dX9_isAtLeast_15 ?_
      obtain ⟨r3, e2, h⟩ := b1_e h
      refine cVi (as := [.int x1, .int (xMARK x2.toNatClampNeg)]) (rest := []) (c_X7_get hq0 e2) C hl.1 hH hS rfl hq0.1 rfl wd_745 wd_744 mw_X7_get wd_1138 rfl (rm_ok (by decide) (by decide)) (Nat.le_of_ble_eq_true rfl) ⟨Nat.zero_le _, Nat.zero_le _⟩ (by decide) dX9_isAtLeast_16 (fun H locs hH hS => ?_)
      refine lv_iload_n hx hb dX9_isAtLeast_19 rfl (lv_at hl 3 rfl) ?_
      refine lv_icmp_lt (tgt := 27) hx hb dX9_isAtLeast_20 (by decide) (fun hc => ?_) (fun hc => ?_)
      · have h := ite_t hc h
        refine lv_iconst (v := 0) hx hb dX9_isAtLeast_27 (by decide) ?_
        exact h_zret (y := 0) C hr hk hH hS rfl (by cases h; rfl) dX9_isAtLeast_28
      · have h := ite_f hc h
        refine lv_iconst (v := 1) hx hb dX9_isAtLeast_23 (by decide) ?_
        refine lv_goto (tgt := 28) hx hb dX9_isAtLeast_24 (by decide) ?_
        exact h_zret (y := 1) C hr hk hH hS rfl (by cases h; rfl) dX9_isAtLeast_28
theorem c_X9_isAtLeast {l : Launch} {ω : WW} {q0 : Nat} {x1 : Int32} {x2 : Int32} {x3 : Int32} (hW : FWC ω) (hq0 : IsS ω q0) {μ : Mem} {rr : Int32} (h : fX9_isAtLeast q0 x1 x2 x3 μ = some rr) : Con l yX9_isAtLeast cX9_isAtLeast 4 (some .boolean) 2 ω [.ref (wB ω + q0), .int x1, .int x2, .int x3] μ (some (.int rr)) μ :=
  con_of (by decide) (Nat.le_of_ble_eq_true rfl) (fun p e s m args below meth c ls C hr hk hl hH hS => wX9_isAtLeast_e hW hq0 C hr hk hH hS (lv_sub hl [0, 1, 2, 3] rfl) h)
set_option maxHeartbeats 4000000 in
set_option maxRecDepth 100000 in
theorem wX9_fitting_s18 {q1 : Nat} (hW : FWC ω) (hq1 : IsS ω q1) (C : Cx ω p s m args c cX9_fitting 8 RX9) (hr : meth.sig.returnType = some .int) (hk : meth.locks = false) {rr : Int32} {μ : Mem} {x2 : Int32} {x3 : Int32} {x4 : Int32} {x5 : Int32} {x6 : Int32} {x7 : Int32} {rec : Int32 → Int32 → Option Int32} (hrec : ∀ (z6 : Int32) (z7 : Int32) (H : Heap) (locs : List Loc) (ls : Array Slot), Hd ω μ H → FS ω s H locs → lv_has ls 8 [(0, .ref (wB ω + 186)), (1, .ref (wB ω + q1)), (2, .int x2), (3, .int x3), (4, .int x4), (5, .int x5), (6, .int z6), (7, .int z7)] → rec z6 z7 = some rr → W p l e (rmd 3) s m args below meth c H locs 0 0 (MQ below (QR ω (some (.int rr)) μ) args s 0 0 (wA ω)) (F0 m 18 ls [])) {K : Int32 → Option Int32} (hK : ∀ (z6 : Int32) (H : Heap) (locs : List Loc) (ls : Array Slot), Hd ω μ H → FS ω s H locs → lv_has ls 8 [(0, .ref (wB ω + 186)), (1, .ref (wB ω + q1)), (2, .int x2), (3, .int x3), (4, .int x4), (5, .int x5), (6, .int z6)] → K z6 = some rr → W p l e (rmd 3) s m args below meth c H locs 0 0 (MQ below (QR ω (some (.int rr)) μ) args s 0 0 (wA ω)) (F0 m 79 ls [])) {H : Heap} {locs : List Loc} {ls : Array Slot} (hH : Hd ω μ H) (hS : FS ω s H locs) (hl : lv_has ls 8 [(0, .ref (wB ω + 186)), (1, .ref (wB ω + q1)), (2, .int x2), (3, .int x3), (4, .int x4), (5, .int x5), (6, .int x6), (7, .int x7)]) (h : fX9_fitting_s18 rec K q1 x3 x5 x6 x7 μ = some rr) : W p l e (rmd 3) s m args below meth c H locs 0 0 (MQ below (QR ω (some (.int rr)) μ) args s 0 0 (wA ω)) (F0 m 18 ls []) := by
  have hx := C.1
  have hb := C.2.1
  unfold fX9_fitting_s18 at h
  refine lv_iload hx hb dX9_fitting_18 (lv_at hl 7 rfl) ?_
  refine lv_iload_n hx hb dX9_fitting_20 rfl (lv_at hl 3 rfl) ?_
  refine lv_icmp_ge (tgt := 79) hx hb dX9_fitting_21 (by decide) (fun hc => ?_) (fun hc => ?_)
  · have h := ite_t hc h
    exact hK _ H locs ls hH hS (lv_sub hl [0, 1, 2, 3, 4, 5, 6] rfl) h
  · have h := ite_f hc h
    refine lv_iload hx hb dX9_fitting_24 (lv_at hl 7 rfl) ?_
    refine lv_bipush (v := 20) hx hb dX9_fitting_26 (by decide) ?_
    refine lv_icmp_ge (tgt := 79) hx hb dX9_fitting_28 (by decide) (fun hc => ?_) (fun hc => ?_)
    · have h := ite_t hc h
      exact hK _ H locs ls hH hS (lv_sub hl [0, 1, 2, 3, 4, 5, 6] rfl) h
    · have h := ite_f hc h
      refine lv_iload hx hb dX9_fitting_31 (lv_at hl 6 rfl) ?_
      refine lv_if_eq (tgt := 70) hx hb dX9_fitting_33 (by decide) (fun hc => ?_) (fun hc => ?_)
      · have h := ite_t hc h
        refine lv_iconst (v := 0) hx hb dX9_fitting_70 (by decide) ?_
        refine lv_istore (lv' := [(6, .int 0), (0, .ref (wB ω + 186)), (1, .ref (wB ω + q1)), (2, .int x2), (3, .int x3), (4, .int x4), (5, .int x5), (7, .int x7)]) hx hb dX9_fitting_71 hl (by decide) rfl (fun ls hl => ?_)
        refine lv_iinc (v := x7 + 1) (lv' := [(7, .int (x7 + 1)), (6, .int 0), (0, .ref (wB ω + 186)), (1, .ref (wB ω + q1)), (2, .int x2), (3, .int x3), (4, .int x4), (5, .int x5)]) hx hb dX9_fitting_73 hl (k := 7) rfl rfl (by decide) rfl (fun ls hl => ?_)
        refine lv_goto (tgt := 18) hx hb dX9_fitting_76 (by decide) ?_
        exact hrec _ _ H locs ls hH hS (lv_sub hl [2, 3, 4, 5, 6, 7, 1, 0] rfl) h
      · have h := ite_f hc h
        refine lv_aload_n hx hb dX9_fitting_36 rfl (lv_at hl 1 rfl) ?_
        refine lv_iload hx hb dX9_fitting_37 (lv_at hl 5 rfl) ?_
        refine lv_aload_n hx hb dX9_fitting_39 rfl (lv_at hl 0 rfl) ?_
        refine g_460 (i := 187) C hH (jC_186 hW) rfl dX9_fitting_40 ?_
        refine lv_iload hx hb dX9_fitting_43 (lv_at hl 7 rfl) ?_
        obtain ⟨b1, h⟩ := gd_e h
        refine h_iald C hH (jC_187 hW).1 (jC_187 hW).2.1 b1 dX9_fitting_45 ?_
        refine lv_aload_n hx hb dX9_fitting_46 rfl (lv_at hl 0 rfl) ?_
        refine g_461 (i := 188) C hH (jC_186 hW) rfl dX9_fitting_47 ?_
        refine lv_iload hx hb dX9_fitting_50 (lv_at hl 7 rfl) ?_
        obtain ⟨b2, h⟩ := gd_e h
        refine h_iald C hH (jC_188 hW).1 (jC_188 hW).2.1 b2 dX9_fitting_52 ?_
        obtain ⟨r4, e3, h⟩ := b1_e h
        refine cSi (as := [.ref (wB ω + q1), .int x5, .int (μ.1 187 x7.toNatClampNeg), .int (μ.1 188 x7.toNatClampNeg)]) (rest := []) (c_X9_isAtLeast hW hq1 e3) C hl.1 hH hS rfl wd_1134 mw_X9_isAtLeast wd_1133 rfl (rm_ok (by decide) (by decide)) (Nat.le_of_ble_eq_true rfl) ⟨Nat.zero_le _, Nat.zero_le _⟩ dX9_fitting_53 (fun H locs hH hS => ?_)
        refine lv_aload_n hx hb dX9_fitting_56 rfl (lv_at hl 0 rfl) ?_
        refine g_462 (i := 189) C hH (jC_186 hW) rfl dX9_fitting_57 ?_
        refine lv_iload hx hb dX9_fitting_60 (lv_at hl 7 rfl) ?_
        obtain ⟨b5, h⟩ := gd_e h
        refine h_zald C hH (jC_189 hW).1 (jC_189 hW).2.1 b5 dX9_fitting_62 ?_
        refine lv_icmp_ne (tgt := 70) hx hb dX9_fitting_63 (by decide) (fun hc => ?_) (fun hc => ?_)
        · have h := ite_f hc h
          refine lv_iconst (v := 0) hx hb dX9_fitting_70 (by decide) ?_
          refine lv_istore (lv' := [(6, .int 0), (0, .ref (wB ω + 186)), (1, .ref (wB ω + q1)), (2, .int x2), (3, .int x3), (4, .int x4), (5, .int x5), (7, .int x7)]) hx hb dX9_fitting_71 hl (by decide) rfl (fun ls hl => ?_)
          refine lv_iinc (v := x7 + 1) (lv' := [(7, .int (x7 + 1)), (6, .int 0), (0, .ref (wB ω + 186)), (1, .ref (wB ω + q1)), (2, .int x2), (3, .int x3), (4, .int x4), (5, .int x5)]) hx hb dX9_fitting_73 hl (k := 7) rfl rfl (by decide) rfl (fun ls hl => ?_)
          refine lv_goto (tgt := 18) hx hb dX9_fitting_76 (by decide) ?_
          exact hrec _ _ H locs ls hH hS (lv_sub hl [2, 3, 4, 5, 6, 7, 1, 0] rfl) h
        · have h := ite_t hc h
          refine lv_iconst (v := 1) hx hb dX9_fitting_66 (by decide) ?_
          refine lv_goto (tgt := 71) hx hb dX9_fitting_67 (by decide) ?_
          refine lv_istore (lv' := [(6, .int 1), (0, .ref (wB ω + 186)), (1, .ref (wB ω + q1)), (2, .int x2), (3, .int x3), (4, .int x4), (5, .int x5), (7, .int x7)]) hx hb dX9_fitting_71 hl (by decide) rfl (fun ls hl => ?_)
          refine lv_iinc (v := x7 + 1) (lv' := [(7, .int (x7 + 1)), (6, .int 1), (0, .ref (wB ω + 186)), (1, .ref (wB ω + q1)), (2, .int x2), (3, .int x3), (4, .int x4), (5, .int x5)]) hx hb dX9_fitting_73 hl (k := 7) rfl rfl (by decide) rfl (fun ls hl => ?_)
          refine lv_goto (tgt := 18) hx hb dX9_fitting_76 (by decide) ?_
          exact hrec _ _ H locs ls hH hS (lv_sub hl [2, 3, 4, 5, 6, 7, 1, 0] rfl) h
theorem wX9_fitting_l18 {q1 : Nat} (hW : FWC ω) (hq1 : IsS ω q1) (C : Cx ω p s m args c cX9_fitting 8 RX9) (hr : meth.sig.returnType = some .int) (hk : meth.locks = false) {rr : Int32} {μ : Mem} {x3 : Int32} {x5 : Int32} {x2 : Int32} {x4 : Int32} {K : Int32 → Option Int32} (hK : ∀ (z6 : Int32) (H : Heap) (locs : List Loc) (ls : Array Slot), Hd ω μ H → FS ω s H locs → lv_has ls 8 [(0, .ref (wB ω + 186)), (1, .ref (wB ω + q1)), (2, .int x2), (3, .int x3), (4, .int x4), (5, .int x5), (6, .int z6)] → K z6 = some rr → W p l e (rmd 3) s m args below meth c H locs 0 0 (MQ below (QR ω (some (.int rr)) μ) args s 0 0 (wA ω)) (F0 m 79 ls [])) : ∀ (n : Nat) (x6 : Int32) (x7 : Int32) (H : Heap) (locs : List Loc) (ls : Array Slot), Hd ω μ H → FS ω s H locs → lv_has ls 8 [(0, .ref (wB ω + 186)), (1, .ref (wB ω + q1)), (2, .int x2), (3, .int x3), (4, .int x4), (5, .int x5), (6, .int x6), (7, .int x7)] → fX9_fitting_l18 K q1 x3 x5 μ n x6 x7 = some rr → W p l e (rmd 3) s m args below meth c H locs 0 0 (MQ below (QR ω (some (.int rr)) μ) args s 0 0 (wA ω)) (F0 m 18 ls []) := by
  intro n
  induction n with
  | zero => intro x6 x7 H locs ls hH hS hl h; cases h
  | succ n ih => intro x6 x7 H locs ls hH hS hl h; exact wX9_fitting_s18 hW hq1 C hr hk ih hK hH hS hl h
set_option maxHeartbeats 4000000 in
set_option maxRecDepth 100000 in
theorem wX9_fitting_b79 {q1 : Nat} (hW : FWC ω) (hq1 : IsS ω q1) (C : Cx ω p s m args c cX9_fitting 8 RX9) (hr : meth.sig.returnType = some .int) (hk : meth.locks = false) {rr : Int32} {μ : Mem} {x2 : Int32} {x3 : Int32} {x4 : Int32} {x5 : Int32} {x6 : Int32} {rec : Int32 → Int32 → Option Int32} (hrec : ∀ (z4 : Int32) (z5 : Int32) (H : Heap) (locs : List Loc) (ls : Array Slot), Hd ω μ H → FS ω s H locs → lv_has ls 8 [(0, .ref (wB ω + 186)), (1, .ref (wB ω + q1)), (2, .int x2), (3, .int x3), (4, .int z4), (5, .int z5)] → rec z4 z5 = some rr → W p l e (rmd 3) s m args below meth c H locs 0 0 (MQ below (QR ω (some (.int rr)) μ) args s 0 0 (wA ω)) (F0 m 6 ls [])) {H : Heap} {locs : List Loc} {ls : Array Slot} (hH : Hd ω μ H) (hS : FS ω s H locs) (hl : lv_has ls 8 [(0, .ref (wB ω + 186)), (1, .ref (wB ω + q1)), (2, .int x2), (3, .int x3), (4, .int x4), (5, .int x5), (6, .int x6)]) (h : fX9_fitting_b79 rec q1 x2 x3 x4 x5 x6 μ = some rr) : W p l e (rmd 3) s m args below meth c H locs 0 0 (MQ below (QR ω (some (.int rr)) μ) args s 0 0 (wA ω)) (F0 m 79 ls []) := by
  have hx := C.1
  have hb := C.2.1
  unfold fX9_fitting_b79 at h
  refine lv_iload hx hb dX9_fitting_79 (lv_at hl 6 rfl) ?_
  refine lv_if_eq (tgt := 93) hx hb dX9_fitting_81 (by decide) (fun hc => ?_) (fun hc => ?_)
  · have h := ite_t hc h
    refine lv_iinc (v := x5 + 1) (lv' := [(5, .int (x5 + 1)), (0, .ref (wB ω + 186)), (1, .ref (wB ω + q1)), (2, .int x2), (3, .int x3), (4, .int x4), (6, .int x6)]) hx hb dX9_fitting_93 hl (k := 5) rfl rfl (by decide) rfl (fun ls hl => ?_)
    refine lv_goto (tgt := 6) hx hb dX9_fitting_96 (by decide) ?_
    exact hrec _ _ H locs ls hH hS (lv_sub hl [1, 2, 3, 4, 5, 0] rfl) h
  · have h := ite_f hc h
    refine lv_iload hx hb dX9_fitting_84 (lv_at hl 4 rfl) ?_
    refine lv_iconst (v := 1) hx hb dX9_fitting_86 (by decide) ?_
    refine lv_iload hx hb dX9_fitting_87 (lv_at hl 5 rfl) ?_
    refine lv_ishl hx hb dX9_fitting_89 ?_
    refine lv_ior hx hb dX9_fitting_90 ?_
    obtain ⟨y7, e8, h⟩ := bd_e h
    refine h_topi e8 ?_
    refine lv_istore (lv' := [(4, .int y7), (0, .ref (wB ω + 186)), (1, .ref (wB ω + q1)), (2, .int x2), (3, .int x3), (5, .int x5), (6, .int x6)]) hx hb dX9_fitting_91 hl (by decide) rfl (fun ls hl => ?_)
    refine lv_iinc (v := x5 + 1) (lv' := [(5, .int (x5 + 1)), (4, .int y7), (0, .ref (wB ω + 186)), (1, .ref (wB ω + q1)), (2, .int x2), (3, .int x3), (6, .int x6)]) hx hb dX9_fitting_93 hl (k := 5) rfl rfl (by decide) rfl (fun ls hl => ?_)
    refine lv_goto (tgt := 6) hx hb dX9_fitting_96 (by decide) ?_
    exact hrec _ _ H locs ls hH hS (lv_sub hl [2, 3, 4, 5, 1, 0] rfl) h
set_option maxHeartbeats 4000000 in
set_option maxRecDepth 100000 in
theorem wX9_fitting_s6 {q1 : Nat} (hW : FWC ω) (hq1 : IsS ω q1) (C : Cx ω p s m args c cX9_fitting 8 RX9) (hr : meth.sig.returnType = some .int) (hk : meth.locks = false) {rr : Int32} {μ : Mem} {x2 : Int32} {x3 : Int32} {x4 : Int32} {x5 : Int32} {rec : Int32 → Int32 → Option Int32} (hrec : ∀ (z4 : Int32) (z5 : Int32) (H : Heap) (locs : List Loc) (ls : Array Slot), Hd ω μ H → FS ω s H locs → lv_has ls 8 [(0, .ref (wB ω + 186)), (1, .ref (wB ω + q1)), (2, .int x2), (3, .int x3), (4, .int z4), (5, .int z5)] → rec z4 z5 = some rr → W p l e (rmd 3) s m args below meth c H locs 0 0 (MQ below (QR ω (some (.int rr)) μ) args s 0 0 (wA ω)) (F0 m 6 ls [])) {H : Heap} {locs : List Loc} {ls : Array Slot} (hH : Hd ω μ H) (hS : FS ω s H locs) (hl : lv_has ls 8 [(0, .ref (wB ω + 186)), (1, .ref (wB ω + q1)), (2, .int x2), (3, .int x3), (4, .int x4), (5, .int x5)]) (h : fX9_fitting_s6 rec q1 x2 x3 x4 x5 μ = some rr) : W p l e (rmd 3) s m args below meth c H locs 0 0 (MQ below (QR ω (some (.int rr)) μ) args s 0 0 (wA ω)) (F0 m 6 ls []) := by
  have hx := C.1
  have hb := C.2.1
  unfold fX9_fitting_s6 at h
  refine lv_iload hx hb dX9_fitting_6 (lv_at hl 5 rfl) ?_
  refine lv_iload_n hx hb dX9_fitting_8 rfl (lv_at hl 2 rfl) ?_
  refine lv_icmp_ge (tgt := 99) hx hb dX9_fitting_9 (by decide) (fun hc => ?_) (fun hc => ?_)
  · have h := ite_t hc h
    refine lv_iload hx hb dX9_fitting_99 (lv_at hl 4 rfl) ?_
    exact h_iret C hr hk hH hS rfl (by cases h; rfl) dX9_fitting_101
  · have h := ite_f hc h
    refine lv_iconst (v := 1) hx hb dX9_fitting_12 (by decide) ?_
    refine lv_istore (lv' := [(6, .int 1), (0, .ref (wB ω + 186)), (1, .ref (wB ω + q1)), (2, .int x2), (3, .int x3), (4, .int x4), (5, .int x5)]) hx hb dX9_fitting_13 hl (by decide) rfl (fun ls hl => ?_)
    refine lv_iconst (v := 0) hx hb dX9_fitting_15 (by decide) ?_
    refine lv_istore (lv' := [(7, .int 0), (6, .int 1), (0, .ref (wB ω + 186)), (1, .ref (wB ω + q1)), (2, .int x2), (3, .int x3), (4, .int x4), (5, .int x5)]) hx hb dX9_fitting_16 hl (by decide) rfl (fun ls hl => ?_)
    refine wX9_fitting_l18 hW hq1 C hr hk (fun y6 H locs ls hH hS hl h => ?_) FU _ _ H locs ls hH hS (lv_sub hl [2, 3, 4, 5, 6, 7, 1, 0] rfl) h
    exact wX9_fitting_b79 hW hq1 C hr hk hrec hH hS hl h
theorem wX9_fitting_l6 {q1 : Nat} (hW : FWC ω) (hq1 : IsS ω q1) (C : Cx ω p s m args c cX9_fitting 8 RX9) (hr : meth.sig.returnType = some .int) (hk : meth.locks = false) {rr : Int32} {μ : Mem} {x2 : Int32} {x3 : Int32} : ∀ (n : Nat) (x4 : Int32) (x5 : Int32) (H : Heap) (locs : List Loc) (ls : Array Slot), Hd ω μ H → FS ω s H locs → lv_has ls 8 [(0, .ref (wB ω + 186)), (1, .ref (wB ω + q1)), (2, .int x2), (3, .int x3), (4, .int x4), (5, .int x5)] → fX9_fitting_l6 q1 x2 x3 μ n x4 x5 = some rr → W p l e (rmd 3) s m args below meth c H locs 0 0 (MQ below (QR ω (some (.int rr)) μ) args s 0 0 (wA ω)) (F0 m 6 ls []) := by
  intro n
  induction n with
  | zero => intro x4 x5 H locs ls hH hS hl h; cases h
  | succ n ih => intro x4 x5 H locs ls hH hS hl h; exact wX9_fitting_s6 hW hq1 C hr hk ih hH hS hl h
set_option maxHeartbeats 4000000 in
set_option maxRecDepth 100000 in
theorem wX9_fitting_e {q1 : Nat} (hW : FWC ω) (hq1 : IsS ω q1) (C : Cx ω p s m args c cX9_fitting 8 RX9) (hr : meth.sig.returnType = some .int) (hk : meth.locks = false) {rr : Int32} {μ : Mem} {x2 : Int32} {x3 : Int32} {H : Heap} {locs : List Loc} {ls : Array Slot} (hH : Hd ω μ H) (hS : FS ω s H locs) (hl : lv_has ls 8 [(0, .ref (wB ω + 186)), (1, .ref (wB ω + q1)), (2, .int x2), (3, .int x3)]) (h : fX9_fitting q1 x2 x3 μ = some rr) : W p l e (rmd 3) s m args below meth c H locs 0 0 (MQ below (QR ω (some (.int rr)) μ) args s 0 0 (wA ω)) (F0 m 0 ls []) := by
  have hx := C.1
  have hb := C.2.1
  unfold fX9_fitting at h
  refine lv_iconst (v := 0) hx hb dX9_fitting_0 (by decide) ?_
  refine lv_istore (lv' := [(4, .int 0), (0, .ref (wB ω + 186)), (1, .ref (wB ω + q1)), (2, .int x2), (3, .int x3)]) hx hb dX9_fitting_1 hl (by decide) rfl (fun ls hl => ?_)
  refine lv_iconst (v := 0) hx hb dX9_fitting_3 (by decide) ?_
  refine lv_istore (lv' := [(5, .int 0), (4, .int 0), (0, .ref (wB ω + 186)), (1, .ref (wB ω + q1)), (2, .int x2), (3, .int x3)]) hx hb dX9_fitting_4 hl (by decide) rfl (fun ls hl => ?_)
  exact wX9_fitting_l6 hW hq1 C hr hk FU _ _ H locs ls hH hS (lv_sub hl [2, 3, 4, 5, 1, 0] rfl) h
theorem c_X9_fitting {l : Launch} {ω : WW} {q1 : Nat} {x2 : Int32} {x3 : Int32} (hW : FWC ω) (hq1 : IsS ω q1) {μ : Mem} {rr : Int32} (h : fX9_fitting q1 x2 x3 μ = some rr) : Con l yX9_fitting cX9_fitting 8 (some .int) 3 ω [.ref (wB ω + 186), .ref (wB ω + q1), .int x2, .int x3] μ (some (.int rr)) μ :=
  con_of (by decide) (Nat.le_of_ble_eq_true rfl) (fun p e s m args below meth c ls C hr hk hl hH hS => wX9_fitting_e hW hq1 C hr hk hH hS (lv_sub hl [0, 1, 2, 3] rfl) h)
set_option maxHeartbeats 4000000 in
set_option maxRecDepth 100000 in
theorem wX9_leftAtWorst_s6 {q0 : Nat} (hW : FWC ω) (hq0 : IsS ω q0) (C : Cx ω p s m args c cX9_leftAtWorst 6 RX9) (hr : meth.sig.returnType = some .int) (hk : meth.locks = false) {rr : Int32} {μ : Mem} {x1 : Int32} {x2 : Int32} {x3 : Int32} {x4 : Int32} {x5 : Int32} {rec : Int32 → Int32 → Option Int32} (hrec : ∀ (z4 : Int32) (z5 : Int32) (H : Heap) (locs : List Loc) (ls : Array Slot), Hd ω μ H → FS ω s H locs → lv_has ls 6 [(0, .ref (wB ω + q0)), (1, .int x1), (2, .int x2), (3, .int x3), (4, .int z4), (5, .int z5)] → rec z4 z5 = some rr → W p l e (rmd 3) s m args below meth c H locs 0 0 (MQ below (QR ω (some (.int rr)) μ) args s 0 0 (wA ω)) (F0 m 6 ls [])) {H : Heap} {locs : List Loc} {ls : Array Slot} (hH : Hd ω μ H) (hS : FS ω s H locs) (hl : lv_has ls 6 [(0, .ref (wB ω + q0)), (1, .int x1), (2, .int x2), (3, .int x3), (4, .int x4), (5, .int x5)]) (h : fX9_leftAtWorst_s6 rec q0 x1 x2 x3 x4 x5 μ = some rr) : W p l e (rmd 3) s m args below meth c H locs 0 0 (MQ below (QR ω (some (.int rr)) μ) args s 0 0 (wA ω)) (F0 m 6 ls []) := by
  have hx := C.1
  have hb := C.2.1
  unfold fX9_leftAtWorst_s6 at h
  refine lv_iload hx hb dX9_leftAtWorst_6 (lv_at hl 5 rfl) ?_
  refine lv_bipush (v := 6) hx hb dX9_leftAtWorst_8 (by decide) ?_
  refine lv_icmp_ge (tgt := 43) hx hb dX9_leftAtWorst_10 (by decide) (fun hc => ?_) (fun hc => ?_)
  · have h := ite_t hc h
    refine lv_iload hx hb dX9_leftAtWorst_43 (lv_at hl 4 rfl) ?_
    refine lv_iload_n hx hb dX9_leftAtWorst_45 rfl (lv_at hl 1 rfl) ?_
    obtain ⟨r2, e1, h⟩ := b1_e h
    refine cSi (as := [.int x1]) (rest := [.int x4]) (c_J6_bitCount_0f7a4 e1) C hl.1 hH hS rfl wd_1140 mw_J6_bitCount_0f7a4 wd_1157 rfl (rm_ok (by decide) (by decide)) (Nat.le_of_ble_eq_true rfl) ⟨Nat.zero_le _, Nat.zero_le _⟩ dX9_leftAtWorst_46 (fun H locs hH hS => ?_)
    refine lv_iload hx hb dX9_leftAtWorst_49 (lv_at hl 4 rfl) ?_
    refine lv_isub hx hb dX9_leftAtWorst_51 ?_
    refine h_mmax C hl.1 wd_1158 (rest := []) (Nat.le_of_ble_eq_true rfl) (Nat.le_of_ble_eq_true rfl) ⟨Nat.zero_le _, Nat.zero_le _⟩ dX9_leftAtWorst_52 ?_
    refine h_topi (y := jmax x4 (r2 - x4)) rfl ?_
    exact h_iret C hr hk hH hS rfl (by cases h; rfl) dX9_leftAtWorst_55
  · have h := ite_f hc h
    refine lv_iload_n hx hb dX9_leftAtWorst_13 rfl (lv_at hl 1 rfl) ?_
    refine lv_iload hx hb dX9_leftAtWorst_14 (lv_at hl 5 rfl) ?_
    refine lv_ishr hx hb dX9_leftAtWorst_16 ?_
    refine lv_iconst (v := 1) hx hb dX9_leftAtWorst_17 (by decide) ?_
    refine lv_iand hx hb dX9_leftAtWorst_18 ?_
    refine lv_iconst (v := 1) hx hb dX9_leftAtWorst_19 (by decide) ?_
    refine lv_icmp_ne (tgt := 37) hx hb dX9_leftAtWorst_20 (by decide) (fun hc => ?_) (fun hc => ?_)
    · have h := ite_f hc h
      refine lv_iinc (v := x5 + 1) (lv' := [(5, .int (x5 + 1)), (0, .ref (wB ω + q0)), (1, .int x1), (2, .int x2), (3, .int x3), (4, .int x4)]) hx hb dX9_leftAtWorst_37 hl (k := 5) rfl rfl (by decide) rfl (fun ls hl => ?_)
      refine lv_goto (tgt := 6) hx hb dX9_leftAtWorst_40 (by decide) ?_
      exact hrec _ _ H locs ls hH hS (lv_sub hl [1, 2, 3, 4, 5, 0] rfl) h
    · have h := ite_t hc h
      refine lv_aload_n hx hb dX9_leftAtWorst_23 rfl (lv_at hl 0 rfl) ?_
      refine lv_iload hx hb dX9_leftAtWorst_24 (lv_at hl 5 rfl) ?_
      refine lv_iload_n hx hb dX9_leftAtWorst_26 rfl (lv_at hl 2 rfl) ?_
      refine lv_iload_n hx hb dX9_leftAtWorst_27 rfl (lv_at hl 3 rfl) ?_
      obtain ⟨r4, e3, h⟩ := b1_e h
      refine cSi (as := [.ref (wB ω + q0), .int x5, .int x2, .int x3]) (rest := []) (c_X9_isAtLeast hW hq0 e3) C hl.1 hH hS rfl wd_1134 mw_X9_isAtLeast wd_1133 rfl (rm_ok (by decide) (by decide)) (Nat.le_of_ble_eq_true rfl) ⟨Nat.zero_le _, Nat.zero_le _⟩ dX9_leftAtWorst_28 (fun H locs hH hS => ?_)
      refine lv_if_eq (tgt := 37) hx hb dX9_leftAtWorst_31 (by decide) (fun hc => ?_) (fun hc => ?_)
      · have h := ite_t hc h
        refine lv_iinc (v := x5 + 1) (lv' := [(5, .int (x5 + 1)), (0, .ref (wB ω + q0)), (1, .int x1), (2, .int x2), (3, .int x3), (4, .int x4)]) hx hb dX9_leftAtWorst_37 hl (k := 5) rfl rfl (by decide) rfl (fun ls hl => ?_)
        refine lv_goto (tgt := 6) hx hb dX9_leftAtWorst_40 (by decide) ?_
        exact hrec _ _ H locs ls hH hS (lv_sub hl [1, 2, 3, 4, 5, 0] rfl) h
      · have h := ite_f hc h
        refine lv_iinc (v := x4 + 1) (lv' := [(4, .int (x4 + 1)), (0, .ref (wB ω + q0)), (1, .int x1), (2, .int x2), (3, .int x3), (5, .int x5)]) hx hb dX9_leftAtWorst_34 hl (k := 4) rfl rfl (by decide) rfl (fun ls hl => ?_)
        refine lv_iinc (v := x5 + 1) (lv' := [(5, .int (x5 + 1)), (4, .int (x4 + 1)), (0, .ref (wB ω + q0)), (1, .int x1), (2, .int x2), (3, .int x3)]) hx hb dX9_leftAtWorst_37 hl (k := 5) rfl rfl (by decide) rfl (fun ls hl => ?_)
        refine lv_goto (tgt := 6) hx hb dX9_leftAtWorst_40 (by decide) ?_
        exact hrec _ _ H locs ls hH hS (lv_sub hl [2, 3, 4, 5, 1, 0] rfl) h
theorem wX9_leftAtWorst_l6 {q0 : Nat} (hW : FWC ω) (hq0 : IsS ω q0) (C : Cx ω p s m args c cX9_leftAtWorst 6 RX9) (hr : meth.sig.returnType = some .int) (hk : meth.locks = false) {rr : Int32} {μ : Mem} {x1 : Int32} {x2 : Int32} {x3 : Int32} : ∀ (n : Nat) (x4 : Int32) (x5 : Int32) (H : Heap) (locs : List Loc) (ls : Array Slot), Hd ω μ H → FS ω s H locs → lv_has ls 6 [(0, .ref (wB ω + q0)), (1, .int x1), (2, .int x2), (3, .int x3), (4, .int x4), (5, .int x5)] → fX9_leftAtWorst_l6 q0 x1 x2 x3 μ n x4 x5 = some rr → W p l e (rmd 3) s m args below meth c H locs 0 0 (MQ below (QR ω (some (.int rr)) μ) args s 0 0 (wA ω)) (F0 m 6 ls []) := by
  intro n
  induction n with
  | zero => intro x4 x5 H locs ls hH hS hl h; cases h
  | succ n ih => intro x4 x5 H locs ls hH hS hl h; exact wX9_leftAtWorst_s6 hW hq0 C hr hk ih hH hS hl h
set_option maxHeartbeats 4000000 in
set_option maxRecDepth 100000 in
theorem wX9_leftAtWorst_e {q0 : Nat} (hW : FWC ω) (hq0 : IsS ω q0) (C : Cx ω p s m args c cX9_leftAtWorst 6 RX9) (hr : meth.sig.returnType = some .int) (hk : meth.locks = false) {rr : Int32} {μ : Mem} {x1 : Int32} {x2 : Int32} {x3 : Int32} {H : Heap} {locs : List Loc} {ls : Array Slot} (hH : Hd ω μ H) (hS : FS ω s H locs) (hl : lv_has ls 6 [(0, .ref (wB ω + q0)), (1, .int x1), (2, .int x2), (3, .int x3)]) (h : fX9_leftAtWorst q0 x1 x2 x3 μ = some rr) : W p l e (rmd 3) s m args below meth c H locs 0 0 (MQ below (QR ω (some (.int rr)) μ) args s 0 0 (wA ω)) (F0 m 0 ls []) := by
  have hx := C.1
  have hb := C.2.1
  unfold fX9_leftAtWorst at h
  refine lv_iconst (v := 0) hx hb dX9_leftAtWorst_0 (by decide) ?_
  refine lv_istore (lv' := [(4, .int 0), (0, .ref (wB ω + q0)), (1, .int x1), (2, .int x2), (3, .int x3)]) hx hb dX9_leftAtWorst_1 hl (by decide) rfl (fun ls hl => ?_)
  refine lv_iconst (v := 0) hx hb dX9_leftAtWorst_3 (by decide) ?_
  refine lv_istore (lv' := [(5, .int 0), (4, .int 0), (0, .ref (wB ω + q0)), (1, .int x1), (2, .int x2), (3, .int x3)]) hx hb dX9_leftAtWorst_4 hl (by decide) rfl (fun ls hl => ?_)
  exact wX9_leftAtWorst_l6 hW hq0 C hr hk FU _ _ H locs ls hH hS (lv_sub hl [2, 3, 4, 5, 1, 0] rfl) h
theorem c_X9_leftAtWorst {l : Launch} {ω : WW} {q0 : Nat} {x1 : Int32} {x2 : Int32} {x3 : Int32} (hW : FWC ω) (hq0 : IsS ω q0) {μ : Mem} {rr : Int32} (h : fX9_leftAtWorst q0 x1 x2 x3 μ = some rr) : Con l yX9_leftAtWorst cX9_leftAtWorst 6 (some .int) 3 ω [.ref (wB ω + q0), .int x1, .int x2, .int x3] μ (some (.int rr)) μ :=
  con_of (by decide) (Nat.le_of_ble_eq_true rfl) (fun p e s m args below meth c ls C hr hk hl hH hS => wX9_leftAtWorst_e hW hq0 C hr hk hH hS (lv_sub hl [0, 1, 2, 3] rfl) h)
set_option maxHeartbeats 4000000 in
set_option maxRecDepth 100000 in
theorem wX9_bestMark_s10 {q1 : Nat} (hW : FWC ω) (hq1 : IsS ω q1) (C : Cx ω p s m args c cX9_bestMark 8 RX9) (hr : meth.sig.returnType = some .int) (hk : meth.locks = false) {rr : Int32} {μ : Mem} {x2 : Int32} {x3 : Int32} {x4 : Int32} {x5 : Int32} {x6 : Int32} {rec : Int32 → Int32 → Int32 → Option Int32} (hrec : ∀ (z4 : Int32) (z5 : Int32) (z6 : Int32) (H : Heap) (locs : List Loc) (ls : Array Slot), Hd ω μ H → FS ω s H locs → lv_has ls 8 [(1, .ref (wB ω + q1)), (2, .int x2), (3, .int x3), (4, .int z4), (5, .int z5), (6, .int z6)] → rec z4 z5 z6 = some rr → W p l e (rmd 4) s m args below meth c H locs 0 0 (MQ below (QR ω (some (.int rr)) μ) args s 0 0 (wA ω)) (F0 m 10 ls [])) {H : Heap} {locs : List Loc} {ls : Array Slot} (hH : Hd ω μ H) (hS : FS ω s H locs) (hl : lv_has ls 8 [(1, .ref (wB ω + q1)), (2, .int x2), (3, .int x3), (4, .int x4), (5, .int x5), (6, .int x6)]) (h : fX9_bestMark_s10 rec q1 x2 x3 x4 x5 x6 μ = some rr) : W p l e (rmd 4) s m args below meth c H locs 0 0 (MQ below (QR ω (some (.int rr)) μ) args s 0 0 (wA ω)) (F0 m 10 ls []) := by
  have hx := C.1
  have hb := C.2.1
  unfold fX9_bestMark_s10 at h
  refine lv_iload hx hb dX9_bestMark_10 (lv_at hl 5 rfl) ?_
  refine lv_iconst (v := 4) hx hb dX9_bestMark_12 (by decide) ?_
  refine lv_icmp_ge (tgt := 47) hx hb dX9_bestMark_13 (by decide) (fun hc => ?_) (fun hc => ?_)
  · have h := ite_t hc h
    refine lv_iload hx hb dX9_bestMark_47 (lv_at hl 3 rfl) ?_
    exact h_iret C hr hk hH hS rfl (by cases h; rfl) dX9_bestMark_49
  · have h := ite_f hc h
    refine lv_aload_n hx hb dX9_bestMark_16 rfl (lv_at hl 0 rfl) ?_
    refine lv_iload_n hx hb dX9_bestMark_17 rfl (lv_at hl 1 rfl) ?_
    refine lv_iload hx hb dX9_bestMark_18 (lv_at hl 5 rfl) ?_
    refine lv_iload_n hx hb dX9_bestMark_20 rfl (lv_at hl 2 rfl) ?_
    obtain ⟨r2, e1, h⟩ := b1_e h
    refine cSi (as := [.ref (wB ω + q1), .int x2, .int x6, .int x3]) (rest := []) (c_X9_leftAtWorst hW hq1 e1) C hl.1 hH hS rfl wd_1155 mw_X9_leftAtWorst wd_1154 rfl (rm_ok (by decide) (by decide)) (Nat.le_of_ble_eq_true rfl) ⟨Nat.zero_le _, Nat.zero_le _⟩ dX9_bestMark_21 (fun H locs hH hS => ?_)
    refine lv_istore (lv' := [(7, .int r2), (1, .ref (wB ω + q1)), (2, .int x2), (3, .int x3), (4, .int x4), (5, .int x5), (6, .int x6)]) hx hb dX9_bestMark_24 hl (by decide) rfl (fun ls hl => ?_)
    refine lv_iload hx hb dX9_bestMark_26 (lv_at hl 0 rfl) ?_
    refine lv_iload hx hb dX9_bestMark_28 (lv_at hl 5 rfl) ?_
    refine lv_icmp_ge (tgt := 41) hx hb dX9_bestMark_30 (by decide) (fun hc => ?_) (fun hc => ?_)
    · have h := ite_t hc h
      refine lv_iinc (v := x6 + 1) (lv' := [(6, .int (x6 + 1)), (7, .int r2), (1, .ref (wB ω + q1)), (2, .int x2), (3, .int x3), (4, .int x4), (5, .int x5)]) hx hb dX9_bestMark_41 hl (k := 6) rfl rfl (by decide) rfl (fun ls hl => ?_)
      refine lv_goto (tgt := 10) hx hb dX9_bestMark_44 (by decide) ?_
      exact hrec _ _ _ H locs ls hH hS (lv_sub hl [2, 3, 4, 5, 6, 0] rfl) h
    · have h := ite_f hc h
      refine lv_iload hx hb dX9_bestMark_33 (lv_at hl 0 rfl) ?_
      refine lv_istore (lv' := [(5, .int r2), (7, .int r2), (1, .ref (wB ω + q1)), (2, .int x2), (3, .int x3), (4, .int x4), (6, .int x6)]) hx hb dX9_bestMark_35 hl (by decide) rfl (fun ls hl => ?_)
      refine lv_iload hx hb dX9_bestMark_37 (lv_at hl 6 rfl) ?_
      refine lv_istore (lv' := [(4, .int x6), (5, .int r2), (7, .int r2), (1, .ref (wB ω + q1)), (2, .int x2), (3, .int x3), (6, .int x6)]) hx hb dX9_bestMark_39 hl (by decide) rfl (fun ls hl => ?_)
      refine lv_iinc (v := x6 + 1) (lv' := [(6, .int (x6 + 1)), (4, .int x6), (5, .int r2), (7, .int r2), (1, .ref (wB ω + q1)), (2, .int x2), (3, .int x3)]) hx hb dX9_bestMark_41 hl (k := 6) rfl rfl (by decide) rfl (fun ls hl => ?_)
      refine lv_goto (tgt := 10) hx hb dX9_bestMark_44 (by decide) ?_
      exact hrec _ _ _ H locs ls hH hS (lv_sub hl [4, 5, 6, 1, 2, 0] rfl) h
theorem wX9_bestMark_l10 {q1 : Nat} (hW : FWC ω) (hq1 : IsS ω q1) (C : Cx ω p s m args c cX9_bestMark 8 RX9) (hr : meth.sig.returnType = some .int) (hk : meth.locks = false) {rr : Int32} {μ : Mem} {x2 : Int32} {x3 : Int32} : ∀ (n : Nat) (x4 : Int32) (x5 : Int32) (x6 : Int32) (H : Heap) (locs : List Loc) (ls : Array Slot), Hd ω μ H → FS ω s H locs → lv_has ls 8 [(1, .ref (wB ω + q1)), (2, .int x2), (3, .int x3), (4, .int x4), (5, .int x5), (6, .int x6)] → fX9_bestMark_l10 q1 x2 x3 μ n x4 x5 x6 = some rr → W p l e (rmd 4) s m args below meth c H locs 0 0 (MQ below (QR ω (some (.int rr)) μ) args s 0 0 (wA ω)) (F0 m 10 ls []) := by
  intro n
  induction n with
  | zero => intro x4 x5 x6 H locs ls hH hS hl h; cases h
  | succ n ih => intro x4 x5 x6 H locs ls hH hS hl h; exact wX9_bestMark_s10 hW hq1 C hr hk ih hH hS hl h
set_option maxHeartbeats 4000000 in
set_option maxRecDepth 100000 in
theorem wX9_bestMark_e {q1 : Nat} (hW : FWC ω) (hq1 : IsS ω q1) (C : Cx ω p s m args c cX9_bestMark 8 RX9) (hr : meth.sig.returnType = some .int) (hk : meth.locks = false) {rr : Int32} {μ : Mem} {x2 : Int32} {x3 : Int32} {H : Heap} {locs : List Loc} {ls : Array Slot} (hH : Hd ω μ H) (hS : FS ω s H locs) (hl : lv_has ls 8 [(0, .ref (wB ω + 186)), (1, .ref (wB ω + q1)), (2, .int x2), (3, .int x3)]) (h : fX9_bestMark q1 x2 x3 μ = some rr) : W p l e (rmd 4) s m args below meth c H locs 0 0 (MQ below (QR ω (some (.int rr)) μ) args s 0 0 (wA ω)) (F0 m 0 ls []) := by
  have hx := C.1
  have hb := C.2.1
  unfold fX9_bestMark at h
  refine lv_iconst (v := 0) hx hb dX9_bestMark_0 (by decide) ?_
  refine lv_istore (lv' := [(4, .int 0), (0, .ref (wB ω + 186)), (1, .ref (wB ω + q1)), (2, .int x2), (3, .int x3)]) hx hb dX9_bestMark_1 hl (by decide) rfl (fun ls hl => ?_)
  refine lv_ldc (v := 1000000) hx hb C.2.2.2.1 (C.2.2.2.2.1 _ (tg wd_1153 rfl)) dX9_bestMark_3 ?_
  refine lv_istore (lv' := [(5, .int 1000000), (4, .int 0), (0, .ref (wB ω + 186)), (1, .ref (wB ω + q1)), (2, .int x2), (3, .int x3)]) hx hb dX9_bestMark_5 hl (by decide) rfl (fun ls hl => ?_)
  refine lv_iconst (v := 0) hx hb dX9_bestMark_7 (by decide) ?_
  refine lv_istore (lv' := [(6, .int 0), (5, .int 1000000), (4, .int 0), (0, .ref (wB ω + 186)), (1, .ref (wB ω + q1)), (2, .int x2), (3, .int x3)]) hx hb dX9_bestMark_8 hl (by decide) rfl (fun ls hl => ?_)
  exact wX9_bestMark_l10 hW hq1 C hr hk FU _ _ _ H locs ls hH hS (lv_sub hl [4, 5, 6, 2, 1, 0] rfl) h
theorem c_X9_bestMark {l : Launch} {ω : WW} {q1 : Nat} {x2 : Int32} {x3 : Int32} (hW : FWC ω) (hq1 : IsS ω q1) {μ : Mem} {rr : Int32} (h : fX9_bestMark q1 x2 x3 μ = some rr) : Con l yX9_bestMark cX9_bestMark 8 (some .int) 4 ω [.ref (wB ω + 186), .ref (wB ω + q1), .int x2, .int x3] μ (some (.int rr)) μ :=
  con_of (by decide) (Nat.le_of_ble_eq_true rfl) (fun p e s m args below meth c ls C hr hk hl hH hS => wX9_bestMark_e hW hq1 C hr hk hH hS (lv_sub hl [0, 1, 2, 3] rfl) h)
set_option maxHeartbeats 4000000 in
set_option maxRecDepth 100000 in
theorem wX11_look_e (hW : FWC ω) (C : Cx ω p s m args c cX11_look 4 RX11) (hr : meth.sig.returnType = some .int) (hk : meth.locks = false) {rr : Int32} {μ : Mem} {x1 : Int32} {x2 : Int32} {H : Heap} {locs : List Loc} {ls : Array Slot} (hH : Hd ω μ H) (hS : FS ω s H locs) (hl : lv_has ls 4 [(0, .ref (wB ω + 1)), (1, .int x1), (2, .int x2)]) (h : fX11_look x1 x2 μ = some rr) : W p l e (rmd 5) s m args below meth c H locs 0 0 (MQ below (QR ω (some (.int rr)) μ) args s 0 0 (wA ω)) (F0 m 0 ls []) := by
  have hx := C.1
  have hb := C.2.1
  unfold fX11_look at h
  refine lv_iload_n hx hb dX11_look_0 rfl (lv_at hl 1 rfl) ?_
  refine lv_if_lt (tgt := 26) hx hb dX11_look_1 (by decide) (fun hc => ?_) (fun hc => ?_)
  · have h := ite_t hc h
    refine lv_iconst (v := (-1)) hx hb dX11_look_26 (by decide) ?_
    exact h_iret C hr hk hH hS rfl (by cases h; rfl) dX11_look_27
  · have h := ite_f hc h
    refine lv_iload_n hx hb dX11_look_4 rfl (lv_at hl 1 rfl) ?_
    refine lv_aload_n hx hb dX11_look_5 rfl (lv_at hl 0 rfl) ?_
    refine g_487 (i := 186) C hH (jC_1 hW) rfl dX11_look_6 ?_
    refine g_464 C hH (jC_186 hW) dX11_look_9 ?_
    refine lv_icmp_gt (tgt := 26) hx hb dX11_look_12 (by decide) (fun hc => ?_) (fun hc => ?_)
    · have h := ite_t hc h
      refine lv_iconst (v := (-1)) hx hb dX11_look_26 (by decide) ?_
      exact h_iret C hr hk hH hS rfl (by cases h; rfl) dX11_look_27
    · have h := ite_f hc h
      refine lv_iload_n hx hb dX11_look_15 rfl (lv_at hl 2 rfl) ?_
      refine lv_if_lt (tgt := 26) hx hb dX11_look_16 (by decide) (fun hc => ?_) (fun hc => ?_)
      · have h := ite_t hc h
        refine lv_iconst (v := (-1)) hx hb dX11_look_26 (by decide) ?_
        exact h_iret C hr hk hH hS rfl (by cases h; rfl) dX11_look_27
      · have h := ite_f hc h
        refine lv_iload_n hx hb dX11_look_19 rfl (lv_at hl 2 rfl) ?_
        refine lv_sipush (v := 999) hx hb dX11_look_20 (by decide) ?_
        refine lv_icmp_le (tgt := 28) hx hb dX11_look_23 (by decide) (fun hc => ?_) (fun hc => ?_)
        · have h := ite_t hc h
          refine lv_aload_n hx hb dX11_look_28 rfl (lv_at hl 0 rfl) ?_
          refine g_487 (i := 186) C hH (jC_1 hW) rfl dX11_look_29 ?_
          refine lv_aload_n hx hb dX11_look_32 rfl (lv_at hl 0 rfl) ?_
          refine g_477 (i := 24) C hH (jC_1 hW) rfl dX11_look_33 ?_
          refine lv_aload_n hx hb dX11_look_36 rfl (lv_at hl 0 rfl) ?_
          refine g_476 (i := 17) C hH (jC_1 hW) rfl dX11_look_37 ?_
          refine g_265 C hH (jC_17 hW) dX11_look_40 ?_
          refine lv_iload_n hx hb dX11_look_43 rfl (lv_at hl 1 rfl) ?_
          obtain ⟨r2, e1, h⟩ := b1_e h
          refine cVi (as := [.ref (wB ω + 24), .int (μ.1 17 2), .int x1]) (rest := []) (c_X9_fitting hW (sC_24 hW) e1) C hl.1 hH hS rfl (jC_186 hW) rfl wd_1131 wd_1130 mw_X9_fitting wd_1129 rfl (rm_ok (by decide) (by decide)) (Nat.le_of_ble_eq_true rfl) ⟨Nat.zero_le _, Nat.zero_le _⟩ (by decide) dX11_look_44 (fun H locs hH hS => ?_)
          refine lv_istore_n (lv' := [(3, .int r2), (0, .ref (wB ω + 1)), (1, .int x1), (2, .int x2)]) hx hb dX11_look_47 rfl hl (by decide) rfl (fun ls hl => ?_)
          refine lv_iload_n hx hb dX11_look_48 rfl (lv_at hl 0 rfl) ?_
          refine lv_if_ne (tgt := 57) hx hb dX11_look_49 (by decide) (fun hc => ?_) (fun hc => ?_)
          · have h := ite_f hc h
            refine lv_aload_n hx hb dX11_look_57 rfl (lv_at hl 1 rfl) ?_
            refine g_487 (i := 186) C hH (jC_1 hW) rfl dX11_look_58 ?_
            refine lv_aload_n hx hb dX11_look_61 rfl (lv_at hl 1 rfl) ?_
            refine g_477 (i := 24) C hH (jC_1 hW) rfl dX11_look_62 ?_
            refine lv_iload_n hx hb dX11_look_65 rfl (lv_at hl 0 rfl) ?_
            refine lv_iload_n hx hb dX11_look_66 rfl (lv_at hl 3 rfl) ?_
            obtain ⟨r4, e3, h⟩ := b1_e h
            refine cVi (as := [.ref (wB ω + 24), .int r2, .int x2]) (rest := []) (c_X9_bestMark hW (sC_24 hW) e3) C hl.1 hH hS rfl (jC_186 hW) rfl wd_1151 wd_1150 mw_X9_bestMark wd_1149 rfl (rm_ok (by decide) (by decide)) (Nat.le_of_ble_eq_true rfl) ⟨Nat.zero_le _, Nat.zero_le _⟩ (by decide) dX11_look_67 (fun H locs hH hS => ?_)
            exact h_iret C hr hk hH hS rfl (by cases h; rfl) dX11_look_70
          · have h := ite_t hc h
            refine lv_bipush (v := (-2)) hx hb dX11_look_52 (by decide) ?_
            refine lv_goto (tgt := 70) hx hb dX11_look_54 (by decide) ?_
            exact h_iret C hr hk hH hS rfl (by cases h; rfl) dX11_look_70
        · have h := ite_f hc h
          refine lv_iconst (v := (-1)) hx hb dX11_look_26 (by decide) ?_
          exact h_iret C hr hk hH hS rfl (by cases h; rfl) dX11_look_27
theorem c_X11_look {l : Launch} {ω : WW} {x1 : Int32} {x2 : Int32} (hW : FWC ω) {μ : Mem} {rr : Int32} (h : fX11_look x1 x2 μ = some rr) : Con l yX11_look cX11_look 4 (some .int) 5 ω [.ref (wB ω + 1), .int x1, .int x2] μ (some (.int rr)) μ :=
  con_of (by decide) (Nat.le_of_ble_eq_true rfl) (fun p e s m args below meth c ls C hr hk hl hH hS => wX11_look_e hW C hr hk hH hS (lv_sub hl [0, 1, 2] rfl) h)
set_option maxHeartbeats 4000000 in
set_option maxRecDepth 100000 in
theorem wX11_lookAhead_b63 (hW : FWC ω) (C : Cx ω p s m args c cX11_lookAhead 5 RX11) (hr : meth.sig.returnType = none) (hk : meth.locks = false) {μo : Mem} {x1 : Int32} {x2 : Int32} {x3 : Int32} {x4 : Int32} {rec : Int32 → Mem → Option Mem} (hrec : ∀ (z4 : Int32) (ν : Mem) (H : Heap) (locs : List Loc) (ls : Array Slot), Hd ω ν H → FS ω s H locs → lv_has ls 5 [(0, .ref (wB ω + 1)), (1, .int x1), (2, .int x2), (3, .int x3), (4, .int z4)] → rec z4 ν = some μo → W p l e (rmd 5) s m args below meth c H locs 0 0 (MQ below (QR ω none μo) args s 0 0 (wA ω)) (F0 m 14 ls [])) {μ : Mem} {H : Heap} {locs : List Loc} {ls : Array Slot} (hH : Hd ω μ H) (hS : FS ω s H locs) (hl : lv_has ls 5 [(0, .ref (wB ω + 1)), (1, .int x1), (2, .int x2), (3, .int x3), (4, .int x4)]) (h : fX11_lookAhead_b63 rec x1 x2 x3 x4 μ = some μo) : W p l e (rmd 5) s m args below meth c H locs 0 0 (MQ below (QR ω none μo) args s 0 0 (wA ω)) (F0 m 63 ls []) := by
  have hx := C.1
  have hb := C.2.1
  unfold fX11_lookAhead_b63 at h
  refine lv_aload_n hx hb dX11_lookAhead_63 rfl (lv_at hl 0 rfl) ?_
  refine g_478 (i := 26) C hH (jC_1 hW) rfl dX11_lookAhead_64 ?_
  refine lv_dup hx hb dX11_lookAhead_67 rfl ?_
  refine g_327 C hH (jC_26 hW) dX11_lookAhead_68 ?_
  refine lv_iconst (v := 1) hx hb dX11_lookAhead_71 (by decide) ?_
  refine lv_iadd hx hb dX11_lookAhead_72 ?_
  obtain ⟨μ7, e8, h⟩ := bd_e h
  refine p_327 C hH hS (jC_26 hW) dX11_lookAhead_73 (fun H locs hH hS => ?_)
  have hH := Hd.to e8 hH
  refine lv_iinc (v := x4 + 1) (lv' := [(4, .int (x4 + 1)), (0, .ref (wB ω + 1)), (1, .int x1), (2, .int x2), (3, .int x3)]) hx hb dX11_lookAhead_76 hl (k := 4) rfl rfl (by decide) rfl (fun ls hl => ?_)
  refine lv_goto (tgt := 14) hx hb dX11_lookAhead_79 (by decide) ?_
  exact hrec _ _ H locs ls hH hS (lv_sub hl [1, 2, 3, 4, 0] rfl) h
set_option maxHeartbeats 4000000 in
set_option maxRecDepth 100000 in
theorem wX11_lookAhead_s14 (hW : FWC ω) (C : Cx ω p s m args c cX11_lookAhead 5 RX11) (hr : meth.sig.returnType = none) (hk : meth.locks = false) {μo : Mem} {x1 : Int32} {x2 : Int32} {x3 : Int32} {x4 : Int32} {rec : Int32 → Mem → Option Mem} (hrec : ∀ (z4 : Int32) (ν : Mem) (H : Heap) (locs : List Loc) (ls : Array Slot), Hd ω ν H → FS ω s H locs → lv_has ls 5 [(0, .ref (wB ω + 1)), (1, .int x1), (2, .int x2), (3, .int x3), (4, .int z4)] → rec z4 ν = some μo → W p l e (rmd 5) s m args below meth c H locs 0 0 (MQ below (QR ω none μo) args s 0 0 (wA ω)) (F0 m 14 ls [])) {μ : Mem} {H : Heap} {locs : List Loc} {ls : Array Slot} (hH : Hd ω μ H) (hS : FS ω s H locs) (hl : lv_has ls 5 [(0, .ref (wB ω + 1)), (1, .int x1), (2, .int x2), (3, .int x3), (4, .int x4)]) (h : fX11_lookAhead_s14 rec x1 x2 x3 x4 μ = some μo) : W p l e (rmd 5) s m args below meth c H locs 0 0 (MQ below (QR ω none μo) args s 0 0 (wA ω)) (F0 m 14 ls []) := by
  have hx := C.1
  have hb := C.2.1
  unfold fX11_lookAhead_s14 at h
  refine lv_iload hx hb dX11_lookAhead_14 (lv_at hl 4 rfl) ?_
  refine lv_iload_n hx hb dX11_lookAhead_16 rfl (lv_at hl 2 rfl) ?_
  refine lv_icmp_ge (tgt := 82) hx hb dX11_lookAhead_17 (by decide) (fun hc => ?_) (fun hc => ?_)
  · have h := ite_t hc h
    exact h_vret C hr hk hH hS (by cases h; rfl) dX11_lookAhead_82
  · have h := ite_f hc h
    refine lv_aload_n hx hb dX11_lookAhead_20 rfl (lv_at hl 0 rfl) ?_
    refine g_476 (i := 17) C hH (jC_1 hW) rfl dX11_lookAhead_21 ?_
    refine lv_aload_n hx hb dX11_lookAhead_24 rfl (lv_at hl 0 rfl) ?_
    refine g_478 (i := 26) C hH (jC_1 hW) rfl dX11_lookAhead_25 ?_
    refine lv_iload_n hx hb dX11_lookAhead_28 rfl (lv_at hl 1 rfl) ?_
    obtain ⟨μ4, e3, h⟩ := b1_e h
    refine cVv (as := [.ref (wB ω + 26), .int x1]) (rest := []) (c_X3_passHouse (qC_17 hW) (sC_26 hW) e3) C hl.1 hH hS rfl (jC_17 hW) rfl wd_866 wd_865 mw_X3_passHouse wd_986 rfl (rm_ok (by decide) (by decide)) (Nat.le_of_ble_eq_true rfl) ⟨Nat.zero_le _, Nat.zero_le _⟩ (by decide) dX11_lookAhead_29 (fun H locs hH hS => ?_)
    refine lv_aload_n hx hb dX11_lookAhead_32 rfl (lv_at hl 0 rfl) ?_
    refine g_476 (i := 17) C hH (jC_1 hW) rfl dX11_lookAhead_33 ?_
    refine lv_iload_n hx hb dX11_lookAhead_36 rfl (lv_at hl 3 rfl) ?_
    refine lv_aload_n hx hb dX11_lookAhead_37 rfl (lv_at hl 0 rfl) ?_
    refine g_478 (i := 26) C hH (jC_1 hW) rfl dX11_lookAhead_38 ?_
    refine g_327 C hH (jC_26 hW) dX11_lookAhead_41 ?_
    obtain ⟨r6, e5, h⟩ := b1_e h
    refine cVi (as := [.int x3, .int (μ4.1 26 1)]) (rest := []) (c_X3_struckHouse (qC_17 hW) e5) C hl.1 hH hS rfl (jC_17 hW) rfl wd_880 wd_879 mw_X3_struckHouse wd_1017 rfl (rm_ok (by decide) (by decide)) (Nat.le_of_ble_eq_true rfl) ⟨Nat.zero_le _, Nat.zero_le _⟩ (by decide) dX11_lookAhead_44 (fun H locs hH hS => ?_)
    refine lv_iload_n hx hb dX11_lookAhead_47 rfl (lv_at hl 1 rfl) ?_
    refine lv_icmp_ne (tgt := 63) hx hb dX11_lookAhead_48 (by decide) (fun hc => ?_) (fun hc => ?_)
    · have h := ite_f hc h
      exact wX11_lookAhead_b63 hW C hr hk hrec hH hS hl h
    · have h := ite_t hc h
      refine lv_aload_n hx hb dX11_lookAhead_51 rfl (lv_at hl 0 rfl) ?_
      refine g_476 (i := 17) C hH (jC_1 hW) rfl dX11_lookAhead_52 ?_
      refine lv_aload_n hx hb dX11_lookAhead_55 rfl (lv_at hl 0 rfl) ?_
      refine g_478 (i := 26) C hH (jC_1 hW) rfl dX11_lookAhead_56 ?_
      refine lv_iload_n hx hb dX11_lookAhead_59 rfl (lv_at hl 1 rfl) ?_
      obtain ⟨μ10, e9, h⟩ := b1_e h
      refine cVv (as := [.ref (wB ω + 26), .int x1]) (rest := []) (c_X3_breakPane (qC_17 hW) (sC_26 hW) e9) C hl.1 hH hS rfl (jC_17 hW) rfl wd_885 wd_884 mw_X3_breakPane wd_1018 rfl (rm_ok (by decide) (by decide)) (Nat.le_of_ble_eq_true rfl) ⟨Nat.zero_le _, Nat.zero_le _⟩ (by decide) dX11_lookAhead_60 (fun H locs hH hS => ?_)
      exact wX11_lookAhead_b63 hW C hr hk hrec hH hS hl h
theorem wX11_lookAhead_l14 (hW : FWC ω) (C : Cx ω p s m args c cX11_lookAhead 5 RX11) (hr : meth.sig.returnType = none) (hk : meth.locks = false) {μo : Mem} {x1 : Int32} {x2 : Int32} {x3 : Int32} : ∀ (n : Nat) (x4 : Int32) (μ : Mem) (H : Heap) (locs : List Loc) (ls : Array Slot), Hd ω μ H → FS ω s H locs → lv_has ls 5 [(0, .ref (wB ω + 1)), (1, .int x1), (2, .int x2), (3, .int x3), (4, .int x4)] → fX11_lookAhead_l14 x1 x2 x3 n x4 μ = some μo → W p l e (rmd 5) s m args below meth c H locs 0 0 (MQ below (QR ω none μo) args s 0 0 (wA ω)) (F0 m 14 ls []) := by
  intro n
  induction n with
  | zero => intro x4 μ H locs ls hH hS hl h; cases h
  | succ n ih => intro x4 μ H locs ls hH hS hl h; exact wX11_lookAhead_s14 hW C hr hk ih hH hS hl h
set_option maxHeartbeats 4000000 in
set_option maxRecDepth 100000 in
theorem wX11_lookAhead_e (hW : FWC ω) (C : Cx ω p s m args c cX11_lookAhead 5 RX11) (hr : meth.sig.returnType = none) (hk : meth.locks = false) {μo : Mem} {x1 : Int32} {x2 : Int32} {x3 : Int32} {μ : Mem} {H : Heap} {locs : List Loc} {ls : Array Slot} (hH : Hd ω μ H) (hS : FS ω s H locs) (hl : lv_has ls 5 [(0, .ref (wB ω + 1)), (1, .int x1), (2, .int x2), (3, .int x3)]) (h : fX11_lookAhead x1 x2 x3 μ = some μo) : W p l e (rmd 5) s m args below meth c H locs 0 0 (MQ below (QR ω none μo) args s 0 0 (wA ω)) (F0 m 0 ls []) := by
  have hx := C.1
  have hb := C.2.1
  unfold fX11_lookAhead at h
  refine lv_aload_n hx hb dX11_lookAhead_0 rfl (lv_at hl 0 rfl) ?_
  refine g_478 (i := 26) C hH (jC_1 hW) rfl dX11_lookAhead_1 ?_
  refine lv_aload_n hx hb dX11_lookAhead_4 rfl (lv_at hl 0 rfl) ?_
  refine g_477 (i := 24) C hH (jC_1 hW) rfl dX11_lookAhead_5 ?_
  obtain ⟨μ2, e1, h⟩ := b1_e h
  refine cVv (as := [.ref (wB ω + 24)]) (rest := []) (c_X7_copyFrom (sC_26 hW) (sC_24 hW) e1) C hl.1 hH hS rfl (jC_26 hW) rfl wd_829 wd_828 mw_X7_copyFrom wd_919 rfl (rm_ok (by decide) (by decide)) (Nat.le_of_ble_eq_true rfl) ⟨Nat.zero_le _, Nat.zero_le _⟩ (by decide) dX11_lookAhead_8 (fun H locs hH hS => ?_)
  refine lv_iconst (v := 0) hx hb dX11_lookAhead_11 (by decide) ?_
  refine lv_istore (lv' := [(4, .int 0), (0, .ref (wB ω + 1)), (1, .int x1), (2, .int x2), (3, .int x3)]) hx hb dX11_lookAhead_12 hl (by decide) rfl (fun ls hl => ?_)
  exact wX11_lookAhead_l14 hW C hr hk FU _ _ H locs ls hH hS (lv_sub hl [1, 2, 3, 4, 0] rfl) h
theorem c_X11_lookAhead {l : Launch} {ω : WW} {x1 : Int32} {x2 : Int32} {x3 : Int32} (hW : FWC ω) {μ : Mem} {μo : Mem} (h : fX11_lookAhead x1 x2 x3 μ = some μo) : Con l yX11_lookAhead cX11_lookAhead 5 none 5 ω [.ref (wB ω + 1), .int x1, .int x2, .int x3] μ none μo :=
  con_of (by decide) (Nat.le_of_ble_eq_true rfl) (fun p e s m args below meth c ls C hr hk hl hH hS => wX11_lookAhead_e hW C hr hk hH hS (lv_sub hl [0, 1, 2, 3] rfl) h)
set_option maxHeartbeats 4000000 in
set_option maxRecDepth 100000 in
theorem wX11_loss_e (hW : FWC ω) (C : Cx ω p s m args c cX11_loss 3 RX11) (hr : meth.sig.returnType = some .int) (hk : meth.locks = false) {rr : Int32} {μo : Mem} {x1 : Int32} {x2 : Int32} {μ : Mem} {H : Heap} {locs : List Loc} {ls : Array Slot} (hH : Hd ω μ H) (hS : FS ω s H locs) (hl : lv_has ls 3 [(0, .ref (wB ω + 1)), (1, .int x1), (2, .int x2)]) (h : fX11_loss x1 x2 μ = some (rr, μo)) : W p l e (rmd 6) s m args below meth c H locs 0 0 (MQ below (QR ω (some (.int rr)) μo) args s 0 0 (wA ω)) (F0 m 0 ls []) := by
  have hx := C.1
  have hb := C.2.1
  unfold fX11_loss at h
  refine lv_aload_n hx hb dX11_loss_0 rfl (lv_at hl 0 rfl) ?_
  refine lv_iload_n hx hb dX11_loss_1 rfl (lv_at hl 1 rfl) ?_
  obtain ⟨r2, e1, h⟩ := b1_e h
  refine cVi (as := [.int x1]) (rest := []) (c_X11_isHouse hW e1) C hl.1 hH hS rfl (jC_1 hW) rfl wd_15 wd_741 mw_X11_isHouse wd_739 rfl (rm_ok (by decide) (by decide)) (Nat.le_of_ble_eq_true rfl) ⟨Nat.zero_le _, Nat.zero_le _⟩ (by decide) dX11_loss_2 (fun H locs hH hS => ?_)
  refine lv_if_eq (tgt := 18) hx hb dX11_loss_5 (by decide) (fun hc => ?_) (fun hc => ?_)
  · have h := ite_t hc h
    refine lv_iconst (v := (-1)) hx hb dX11_loss_18 (by decide) ?_
    exact h_iret C hr hk hH hS rfl (by cases h; rfl) dX11_loss_19
  · have h := ite_f hc h
    refine lv_iload_n hx hb dX11_loss_8 rfl (lv_at hl 2 rfl) ?_
    refine lv_if_lt (tgt := 18) hx hb dX11_loss_9 (by decide) (fun hc => ?_) (fun hc => ?_)
    · have h := ite_t hc h
      refine lv_iconst (v := (-1)) hx hb dX11_loss_18 (by decide) ?_
      exact h_iret C hr hk hH hS rfl (by cases h; rfl) dX11_loss_19
    · have h := ite_f hc h
      refine lv_iload_n hx hb dX11_loss_12 rfl (lv_at hl 2 rfl) ?_
      refine lv_bipush (v := 30) hx hb dX11_loss_13 (by decide) ?_
      refine lv_icmp_le (tgt := 20) hx hb dX11_loss_15 (by decide) (fun hc => ?_) (fun hc => ?_)
      · have h := ite_t hc h
        refine lv_aload_n hx hb dX11_loss_20 rfl (lv_at hl 0 rfl) ?_
        refine lv_iload_n hx hb dX11_loss_21 rfl (lv_at hl 1 rfl) ?_
        refine lv_iload_n hx hb dX11_loss_22 rfl (lv_at hl 2 rfl) ?_
        obtain ⟨r5, μ4, e3, h⟩ := b2_e h
        refine cVi (as := [.int x1, .int x2]) (rest := []) (c_X11_lossWith hW e3) C hl.1 hH hS rfl (jC_1 hW) rfl wd_17 wd_917 mw_X11_lossWith wd_915 rfl (rm_ok (by decide) (by decide)) (Nat.le_of_ble_eq_true rfl) ⟨Nat.zero_le _, Nat.zero_le _⟩ (by decide) dX11_loss_23 (fun H locs hH hS => ?_)
        exact h_iret C hr hk hH hS rfl (by cases h; rfl) dX11_loss_26
      · have h := ite_f hc h
        refine lv_iconst (v := (-1)) hx hb dX11_loss_18 (by decide) ?_
        exact h_iret C hr hk hH hS rfl (by cases h; rfl) dX11_loss_19
theorem c_X11_loss {l : Launch} {ω : WW} {x1 : Int32} {x2 : Int32} (hW : FWC ω) {μ : Mem} {rr : Int32} {μo : Mem} (h : fX11_loss x1 x2 μ = some (rr, μo)) : Con l yX11_loss cX11_loss 3 (some .int) 6 ω [.ref (wB ω + 1), .int x1, .int x2] μ (some (.int rr)) μo :=
  con_of (by decide) (Nat.le_of_ble_eq_true rfl) (fun p e s m args below meth c ls C hr hk hl hH hS => wX11_loss_e hW C hr hk hH hS (lv_sub hl [0, 1, 2] rfl) h)
set_option maxHeartbeats 4000000 in
set_option maxRecDepth 100000 in
theorem wX11_mend_e (hW : FWC ω) (C : Cx ω p s m args c cX11_mend 3 RX11) (hr : meth.sig.returnType = some .int) (hk : meth.locks = false) {rr : Int32} {μo : Mem} {x1 : Int32} {μ : Mem} {H : Heap} {locs : List Loc} {ls : Array Slot} (hH : Hd ω μ H) (hS : FS ω s H locs) (hl : lv_has ls 3 [(0, .ref (wB ω + 1)), (1, .int x1)]) (h : fX11_mend x1 μ = some (rr, μo)) : W p l e (rmd 4) s m args below meth c H locs 0 0 (MQ below (QR ω (some (.int rr)) μo) args s 0 0 (wA ω)) (F0 m 0 ls []) := by
  have hx := C.1
  have hb := C.2.1
  unfold fX11_mend at h
  refine lv_aload_n hx hb dX11_mend_0 rfl (lv_at hl 0 rfl) ?_
  refine lv_iload_n hx hb dX11_mend_1 rfl (lv_at hl 1 rfl) ?_
  obtain ⟨r2, e1, h⟩ := b1_e h
  refine cVi (as := [.int x1]) (rest := []) (c_X11_isHouse hW e1) C hl.1 hH hS rfl (jC_1 hW) rfl wd_15 wd_741 mw_X11_isHouse wd_739 rfl (rm_ok (by decide) (by decide)) (Nat.le_of_ble_eq_true rfl) ⟨Nat.zero_le _, Nat.zero_le _⟩ (by decide) dX11_mend_2 (fun H locs hH hS => ?_)
  refine lv_if_eq (tgt := 21) hx hb dX11_mend_5 (by decide) (fun hc => ?_) (fun hc => ?_)
  · have h := ite_t hc h
    refine lv_iconst (v := (-1)) hx hb dX11_mend_21 (by decide) ?_
    exact h_iret C hr hk hH hS rfl (by cases h; rfl) dX11_mend_22
  · have h := ite_f hc h
    refine lv_aload_n hx hb dX11_mend_8 rfl (lv_at hl 0 rfl) ?_
    refine g_477 (i := 24) C hH (jC_1 hW) rfl dX11_mend_9 ?_
    refine lv_iload_n hx hb dX11_mend_12 rfl (lv_at hl 1 rfl) ?_
    refine lv_iconst (v := 1) hx hb dX11_mend_13 (by decide) ?_
    obtain ⟨r4, e3, h⟩ := b1_e h
    refine cVi (as := [.int x1, .int 1]) (rest := []) (c_X7_get (sC_24 hW) e3) C hl.1 hH hS rfl (jC_24 hW) rfl wd_745 wd_744 mw_X7_get wd_743 rfl (rm_ok (by decide) (by decide)) (Nat.le_of_ble_eq_true rfl) ⟨Nat.zero_le _, Nat.zero_le _⟩ (by decide) dX11_mend_14 (fun H locs hH hS => ?_)
    refine lv_iconst (v := 1) hx hb dX11_mend_17 (by decide) ?_
    refine lv_icmp_ge (tgt := 23) hx hb dX11_mend_18 (by decide) (fun hc => ?_) (fun hc => ?_)
    · have h := ite_t hc h
      refine lv_aload_n hx hb dX11_mend_23 rfl (lv_at hl 0 rfl) ?_
      refine g_476 (i := 17) C hH (jC_1 hW) rfl dX11_mend_24 ?_
      refine lv_aload_n hx hb dX11_mend_27 rfl (lv_at hl 0 rfl) ?_
      refine g_477 (i := 24) C hH (jC_1 hW) rfl dX11_mend_28 ?_
      refine lv_iload_n hx hb dX11_mend_31 rfl (lv_at hl 1 rfl) ?_
      obtain ⟨r7, μ6, e5, h⟩ := b2_e h
      refine cVi (as := [.ref (wB ω + 24), .int x1]) (rest := []) (c_X3_mends (qC_17 hW) (sC_24 hW) e5) C hl.1 hH hS rfl (jC_17 hW) rfl wd_773 wd_772 mw_X3_mends wd_771 rfl (rm_ok (by decide) (by decide)) (Nat.le_of_ble_eq_true rfl) ⟨Nat.zero_le _, Nat.zero_le _⟩ (by decide) dX11_mend_32 (fun H locs hH hS => ?_)
      refine lv_istore_n (lv' := [(2, .int r7), (0, .ref (wB ω + 1)), (1, .int x1)]) hx hb dX11_mend_35 rfl hl (by decide) rfl (fun ls hl => ?_)
      refine lv_iload_n hx hb dX11_mend_36 rfl (lv_at hl 0 rfl) ?_
      refine lv_aload_n hx hb dX11_mend_37 rfl (lv_at hl 1 rfl) ?_
      refine g_477 (i := 24) C hH (jC_1 hW) rfl dX11_mend_38 ?_
      refine g_328 C hH (jC_24 hW) dX11_mend_41 ?_
      refine lv_icmp_le (tgt := 49) hx hb dX11_mend_44 (by decide) (fun hc => ?_) (fun hc => ?_)
      · have h := ite_t hc h
        refine lv_aload_n hx hb dX11_mend_49 rfl (lv_at hl 1 rfl) ?_
        refine g_480 (i := 30) C hH (jC_1 hW) rfl dX11_mend_50 ?_
        refine lv_aload_n hx hb dX11_mend_53 rfl (lv_at hl 1 rfl) ?_
        refine g_477 (i := 24) C hH (jC_1 hW) rfl dX11_mend_54 ?_
        obtain ⟨μ9, e8, h⟩ := b1_e h
        refine cVv (as := [.ref (wB ω + 24)]) (rest := []) (c_X0_push hW (sC_24 hW) e8) C hl.1 hH hS rfl (jC_30 hW) rfl wd_825 wd_824 mw_X0_push wd_823 rfl (rm_ok (by decide) (by decide)) (Nat.le_of_ble_eq_true rfl) ⟨Nat.zero_le _, Nat.zero_le _⟩ (by decide) dX11_mend_57 (fun H locs hH hS => ?_)
        refine lv_aload_n hx hb dX11_mend_60 rfl (lv_at hl 1 rfl) ?_
        refine g_477 (i := 24) C hH (jC_1 hW) rfl dX11_mend_61 ?_
        refine lv_dup hx hb dX11_mend_64 rfl ?_
        refine g_328 C hH (jC_24 hW) dX11_mend_65 ?_
        refine lv_iload_n hx hb dX11_mend_68 rfl (lv_at hl 0 rfl) ?_
        refine lv_isub hx hb dX11_mend_69 ?_
        obtain ⟨μ10, e11, h⟩ := bd_e h
        refine p_328 C hH hS (jC_24 hW) dX11_mend_70 (fun H locs hH hS => ?_)
        have hH := Hd.to e11 hH
        refine lv_aload_n hx hb dX11_mend_73 rfl (lv_at hl 1 rfl) ?_
        refine g_477 (i := 24) C hH (jC_1 hW) rfl dX11_mend_74 ?_
        refine lv_iload_n hx hb dX11_mend_77 rfl (lv_at hl 2 rfl) ?_
        refine lv_iconst (v := 1) hx hb dX11_mend_78 (by decide) ?_
        refine lv_aload_n hx hb dX11_mend_79 rfl (lv_at hl 1 rfl) ?_
        refine g_477 (i := 24) C hH (jC_1 hW) rfl dX11_mend_80 ?_
        refine lv_iload_n hx hb dX11_mend_83 rfl (lv_at hl 2 rfl) ?_
        refine lv_iconst (v := 1) hx hb dX11_mend_84 (by decide) ?_
        obtain ⟨r13, e12, h⟩ := b1_e h
        refine cVi (as := [.int x1, .int 1]) (rest := [.int 1, .int x1, .ref (wB ω + 24)]) (c_X7_get (sC_24 hW) e12) C hl.1 hH hS rfl (jC_24 hW) rfl wd_745 wd_744 mw_X7_get wd_743 rfl (rm_ok (by decide) (by decide)) (Nat.le_of_ble_eq_true rfl) ⟨Nat.zero_le _, Nat.zero_le _⟩ (by decide) dX11_mend_85 (fun H locs hH hS => ?_)
        refine lv_iconst (v := 1) hx hb dX11_mend_88 (by decide) ?_
        refine lv_isub hx hb dX11_mend_89 ?_
        obtain ⟨μ15, e14, h⟩ := b1_e h
        refine cVv (as := [.int x1, .int 1, .int (r13 - 1)]) (rest := []) (c_X7_set (sC_24 hW) e14) C hl.1 hH hS rfl (jC_24 hW) rfl wd_721 wd_720 mw_X7_set wd_842 rfl (rm_ok (by decide) (by decide)) (Nat.le_of_ble_eq_true rfl) ⟨Nat.zero_le _, Nat.zero_le _⟩ (by decide) dX11_mend_90 (fun H locs hH hS => ?_)
        refine lv_iload_n hx hb dX11_mend_93 rfl (lv_at hl 0 rfl) ?_
        exact h_iret C hr hk hH hS rfl (by cases h; rfl) dX11_mend_94
      · have h := ite_f hc h
        refine lv_iconst (v := (-1)) hx hb dX11_mend_47 (by decide) ?_
        exact h_iret C hr hk hH hS rfl (by cases h; rfl) dX11_mend_48
    · have h := ite_f hc h
      refine lv_iconst (v := (-1)) hx hb dX11_mend_21 (by decide) ?_
      exact h_iret C hr hk hH hS rfl (by cases h; rfl) dX11_mend_22
theorem c_X11_mend {l : Launch} {ω : WW} {x1 : Int32} (hW : FWC ω) {μ : Mem} {rr : Int32} {μo : Mem} (h : fX11_mend x1 μ = some (rr, μo)) : Con l yX11_mend cX11_mend 3 (some .int) 4 ω [.ref (wB ω + 1), .int x1] μ (some (.int rr)) μo :=
  con_of (by decide) (Nat.le_of_ble_eq_true rfl) (fun p e s m args below meth c ls C hr hk hl hH hS => wX11_mend_e hW C hr hk hH hS (lv_sub hl [0, 1] rfl) h)
set_option maxHeartbeats 4000000 in
set_option maxRecDepth 100000 in
theorem wX11_nearest_s20 (hW : FWC ω) (C : Cx ω p s m args c cX11_nearest 5 RX11) (hr : meth.sig.returnType = some .int) (hk : meth.locks = false) {rr : Int32} {μ : Mem} {x1 : Int32} {x2 : Int32} {x3 : Int32} {x4 : Int32} {rec : Int32 → Int32 → Int32 → Option Int32} (hrec : ∀ (z2 : Int32) (z3 : Int32) (z4 : Int32) (H : Heap) (locs : List Loc) (ls : Array Slot), Hd ω μ H → FS ω s H locs → lv_has ls 5 [(0, .ref (wB ω + 1)), (1, .int x1), (2, .int z2), (3, .int z3), (4, .int z4)] → rec z2 z3 z4 = some rr → W p l e (rmd 4) s m args below meth c H locs 0 0 (MQ below (QR ω (some (.int rr)) μ) args s 0 0 (wA ω)) (F0 m 20 ls [])) {H : Heap} {locs : List Loc} {ls : Array Slot} (hH : Hd ω μ H) (hS : FS ω s H locs) (hl : lv_has ls 5 [(0, .ref (wB ω + 1)), (1, .int x1), (2, .int x2), (3, .int x3), (4, .int x4)]) (h : fX11_nearest_s20 rec x1 x2 x3 x4 μ = some rr) : W p l e (rmd 4) s m args below meth c H locs 0 0 (MQ below (QR ω (some (.int rr)) μ) args s 0 0 (wA ω)) (F0 m 20 ls []) := by
  have hx := C.1
  have hb := C.2.1
  unfold fX11_nearest_s20 at h
  refine lv_iload hx hb dX11_nearest_20 (lv_at hl 4 rfl) ?_
  refine lv_aload_n hx hb dX11_nearest_22 rfl (lv_at hl 0 rfl) ?_
  refine g_476 (i := 17) C hH (jC_1 hW) rfl dX11_nearest_23 ?_
  refine g_265 C hH (jC_17 hW) dX11_nearest_26 ?_
  refine lv_icmp_ge (tgt := 72) hx hb dX11_nearest_29 (by decide) (fun hc => ?_) (fun hc => ?_)
  · have h := ite_t hc h
    refine lv_iload_n hx hb dX11_nearest_72 rfl (lv_at hl 2 rfl) ?_
    exact h_iret C hr hk hH hS rfl (by cases h; rfl) dX11_nearest_73
  · have h := ite_f hc h
    refine lv_iload hx hb dX11_nearest_32 (lv_at hl 4 rfl) ?_
    refine lv_iload_n hx hb dX11_nearest_34 rfl (lv_at hl 1 rfl) ?_
    refine lv_icmp_eq (tgt := 66) hx hb dX11_nearest_35 (by decide) (fun hc => ?_) (fun hc => ?_)
    · have h := ite_t hc h
      refine lv_iinc (v := x4 + 1) (lv' := [(4, .int (x4 + 1)), (0, .ref (wB ω + 1)), (1, .int x1), (2, .int x2), (3, .int x3)]) hx hb dX11_nearest_66 hl (k := 4) rfl rfl (by decide) rfl (fun ls hl => ?_)
      refine lv_goto (tgt := 20) hx hb dX11_nearest_69 (by decide) ?_
      exact hrec _ _ _ H locs ls hH hS (lv_sub hl [1, 2, 3, 4, 0] rfl) h
    · have h := ite_f hc h
      refine lv_aload_n hx hb dX11_nearest_38 rfl (lv_at hl 0 rfl) ?_
      refine g_476 (i := 17) C hH (jC_1 hW) rfl dX11_nearest_39 ?_
      refine lv_iload_n hx hb dX11_nearest_42 rfl (lv_at hl 1 rfl) ?_
      refine lv_iload hx hb dX11_nearest_43 (lv_at hl 4 rfl) ?_
      obtain ⟨r4, e3, h⟩ := b1_e h
      refine cVi (as := [.int x1, .int x4]) (rest := []) (c_X3_distance (qC_17 hW) e3) C hl.1 hH hS rfl (jC_17 hW) rfl wd_1029 wd_1028 mw_X3_distance wd_1027 rfl (rm_ok (by decide) (by decide)) (Nat.le_of_ble_eq_true rfl) ⟨Nat.zero_le _, Nat.zero_le _⟩ (by decide) dX11_nearest_45 (fun H locs hH hS => ?_)
      refine lv_iload_n hx hb dX11_nearest_48 rfl (lv_at hl 3 rfl) ?_
      refine lv_icmp_ge (tgt := 66) hx hb dX11_nearest_49 (by decide) (fun hc => ?_) (fun hc => ?_)
      · have h := ite_t hc h
        refine lv_iinc (v := x4 + 1) (lv' := [(4, .int (x4 + 1)), (0, .ref (wB ω + 1)), (1, .int x1), (2, .int x2), (3, .int x3)]) hx hb dX11_nearest_66 hl (k := 4) rfl rfl (by decide) rfl (fun ls hl => ?_)
        refine lv_goto (tgt := 20) hx hb dX11_nearest_69 (by decide) ?_
        exact hrec _ _ _ H locs ls hH hS (lv_sub hl [1, 2, 3, 4, 0] rfl) h
      · have h := ite_f hc h
        refine lv_aload_n hx hb dX11_nearest_52 rfl (lv_at hl 0 rfl) ?_
        refine g_476 (i := 17) C hH (jC_1 hW) rfl dX11_nearest_53 ?_
        refine lv_iload_n hx hb dX11_nearest_56 rfl (lv_at hl 1 rfl) ?_
        refine lv_iload hx hb dX11_nearest_57 (lv_at hl 4 rfl) ?_
        obtain ⟨r6, e5, h⟩ := b1_e h
        refine cVi (as := [.int x1, .int x4]) (rest := []) (c_X3_distance (qC_17 hW) e5) C hl.1 hH hS rfl (jC_17 hW) rfl wd_1029 wd_1028 mw_X3_distance wd_1027 rfl (rm_ok (by decide) (by decide)) (Nat.le_of_ble_eq_true rfl) ⟨Nat.zero_le _, Nat.zero_le _⟩ (by decide) dX11_nearest_59 (fun H locs hH hS => ?_)
        refine lv_istore_n (lv' := [(3, .int r6), (0, .ref (wB ω + 1)), (1, .int x1), (2, .int x2), (4, .int x4)]) hx hb dX11_nearest_62 rfl hl (by decide) rfl (fun ls hl => ?_)
        refine lv_iload hx hb dX11_nearest_63 (lv_at hl 4 rfl) ?_
        refine lv_istore_n (lv' := [(2, .int x4), (3, .int r6), (0, .ref (wB ω + 1)), (1, .int x1), (4, .int x4)]) hx hb dX11_nearest_65 rfl hl (by decide) rfl (fun ls hl => ?_)
        refine lv_iinc (v := x4 + 1) (lv' := [(4, .int (x4 + 1)), (2, .int x4), (3, .int r6), (0, .ref (wB ω + 1)), (1, .int x1)]) hx hb dX11_nearest_66 hl (k := 4) rfl rfl (by decide) rfl (fun ls hl => ?_)
        refine lv_goto (tgt := 20) hx hb dX11_nearest_69 (by decide) ?_
        exact hrec _ _ _ H locs ls hH hS (lv_sub hl [3, 4, 1, 2, 0] rfl) h
theorem wX11_nearest_l20 (hW : FWC ω) (C : Cx ω p s m args c cX11_nearest 5 RX11) (hr : meth.sig.returnType = some .int) (hk : meth.locks = false) {rr : Int32} {μ : Mem} {x1 : Int32} : ∀ (n : Nat) (x2 : Int32) (x3 : Int32) (x4 : Int32) (H : Heap) (locs : List Loc) (ls : Array Slot), Hd ω μ H → FS ω s H locs → lv_has ls 5 [(0, .ref (wB ω + 1)), (1, .int x1), (2, .int x2), (3, .int x3), (4, .int x4)] → fX11_nearest_l20 x1 μ n x2 x3 x4 = some rr → W p l e (rmd 4) s m args below meth c H locs 0 0 (MQ below (QR ω (some (.int rr)) μ) args s 0 0 (wA ω)) (F0 m 20 ls []) := by
  intro n
  induction n with
  | zero => intro x2 x3 x4 H locs ls hH hS hl h; cases h
  | succ n ih => intro x2 x3 x4 H locs ls hH hS hl h; exact wX11_nearest_s20 hW C hr hk ih hH hS hl h
set_option maxHeartbeats 4000000 in
set_option maxRecDepth 100000 in
theorem wX11_nearest_e (hW : FWC ω) (C : Cx ω p s m args c cX11_nearest 5 RX11) (hr : meth.sig.returnType = some .int) (hk : meth.locks = false) {rr : Int32} {μ : Mem} {x1 : Int32} {H : Heap} {locs : List Loc} {ls : Array Slot} (hH : Hd ω μ H) (hS : FS ω s H locs) (hl : lv_has ls 5 [(0, .ref (wB ω + 1)), (1, .int x1)]) (h : fX11_nearest x1 μ = some rr) : W p l e (rmd 4) s m args below meth c H locs 0 0 (MQ below (QR ω (some (.int rr)) μ) args s 0 0 (wA ω)) (F0 m 0 ls []) := by
  have hx := C.1
  have hb := C.2.1
  unfold fX11_nearest at h
  refine lv_aload_n hx hb dX11_nearest_0 rfl (lv_at hl 0 rfl) ?_
  refine lv_iload_n hx hb dX11_nearest_1 rfl (lv_at hl 1 rfl) ?_
  obtain ⟨r2, e1, h⟩ := b1_e h
  refine cVi (as := [.int x1]) (rest := []) (c_X11_isHouse hW e1) C hl.1 hH hS rfl (jC_1 hW) rfl wd_15 wd_741 mw_X11_isHouse wd_739 rfl (rm_ok (by decide) (by decide)) (Nat.le_of_ble_eq_true rfl) ⟨Nat.zero_le _, Nat.zero_le _⟩ (by decide) dX11_nearest_2 (fun H locs hH hS => ?_)
  refine lv_if_ne (tgt := 10) hx hb dX11_nearest_5 (by decide) (fun hc => ?_) (fun hc => ?_)
  · have h := ite_f hc h
    refine lv_bipush (v := (-2)) hx hb dX11_nearest_10 (by decide) ?_
    refine lv_istore_n (lv' := [(2, .int (-2)), (0, .ref (wB ω + 1)), (1, .int x1)]) hx hb dX11_nearest_12 rfl hl (by decide) rfl (fun ls hl => ?_)
    refine lv_ldcw (v := 1000000) hx hb C.2.2.2.1 (C.2.2.2.2.1 _ (tg wd_1063 rfl)) dX11_nearest_13 ?_
    refine lv_istore_n (lv' := [(3, .int 1000000), (2, .int (-2)), (0, .ref (wB ω + 1)), (1, .int x1)]) hx hb dX11_nearest_16 rfl hl (by decide) rfl (fun ls hl => ?_)
    refine lv_iconst (v := 0) hx hb dX11_nearest_17 (by decide) ?_
    refine lv_istore (lv' := [(4, .int 0), (3, .int 1000000), (2, .int (-2)), (0, .ref (wB ω + 1)), (1, .int x1)]) hx hb dX11_nearest_18 hl (by decide) rfl (fun ls hl => ?_)
    exact wX11_nearest_l20 hW C hr hk FU _ _ _ H locs ls hH hS (lv_sub hl [3, 4, 2, 1, 0] rfl) h
  · have h := ite_t hc h
    refine lv_iconst (v := (-1)) hx hb dX11_nearest_8 (by decide) ?_
    exact h_iret C hr hk hH hS rfl (by cases h; rfl) dX11_nearest_9
theorem c_X11_nearest {l : Launch} {ω : WW} {x1 : Int32} (hW : FWC ω) {μ : Mem} {rr : Int32} (h : fX11_nearest x1 μ = some rr) : Con l yX11_nearest cX11_nearest 5 (some .int) 4 ω [.ref (wB ω + 1), .int x1] μ (some (.int rr)) μ :=
  con_of (by decide) (Nat.le_of_ble_eq_true rfl) (fun p e s m args below meth c ls C hr hk hl hH hS => wX11_nearest_e hW C hr hk hH hS (lv_sub hl [0, 1] rfl) h)
set_option maxHeartbeats 4000000 in
set_option maxRecDepth 100000 in
theorem wX11_nearestToJoined_s9 (hW : FWC ω) (C : Cx ω p s m args c cX11_nearestToJoined 6 RX11) (hr : meth.sig.returnType = some .int) (hk : meth.locks = false) {rr : Int32} {μ : Mem} {x1 : Int32} {x2 : Int32} {x3 : Int32} {x4 : Int32} {rec : Int32 → Int32 → Int32 → Option Int32} (hrec : ∀ (z2 : Int32) (z3 : Int32) (z4 : Int32) (H : Heap) (locs : List Loc) (ls : Array Slot), Hd ω μ H → FS ω s H locs → lv_has ls 6 [(0, .ref (wB ω + 1)), (1, .int x1), (2, .int z2), (3, .int z3), (4, .int z4)] → rec z2 z3 z4 = some rr → W p l e (rmd 5) s m args below meth c H locs 0 0 (MQ below (QR ω (some (.int rr)) μ) args s 0 0 (wA ω)) (F0 m 9 ls [])) {H : Heap} {locs : List Loc} {ls : Array Slot} (hH : Hd ω μ H) (hS : FS ω s H locs) (hl : lv_has ls 6 [(0, .ref (wB ω + 1)), (1, .int x1), (2, .int x2), (3, .int x3), (4, .int x4)]) (h : fX11_nearestToJoined_s9 rec x1 x2 x3 x4 μ = some rr) : W p l e (rmd 5) s m args below meth c H locs 0 0 (MQ below (QR ω (some (.int rr)) μ) args s 0 0 (wA ω)) (F0 m 9 ls []) := by
  have hx := C.1
  have hb := C.2.1
  unfold fX11_nearestToJoined_s9 at h
  refine lv_iload hx hb dX11_nearestToJoined_9 (lv_at hl 4 rfl) ?_
  refine lv_aload_n hx hb dX11_nearestToJoined_11 rfl (lv_at hl 0 rfl) ?_
  refine g_476 (i := 17) C hH (jC_1 hW) rfl dX11_nearestToJoined_12 ?_
  refine g_265 C hH (jC_17 hW) dX11_nearestToJoined_15 ?_
  refine lv_icmp_ge (tgt := 57) hx hb dX11_nearestToJoined_18 (by decide) (fun hc => ?_) (fun hc => ?_)
  · have h := ite_t hc h
    refine lv_iload_n hx hb dX11_nearestToJoined_57 rfl (lv_at hl 2 rfl) ?_
    exact h_iret C hr hk hH hS rfl (by cases h; rfl) dX11_nearestToJoined_58
  · have h := ite_f hc h
    refine lv_aload_n hx hb dX11_nearestToJoined_21 rfl (lv_at hl 0 rfl) ?_
    refine lv_iload hx hb dX11_nearestToJoined_22 (lv_at hl 4 rfl) ?_
    refine lv_iload_n hx hb dX11_nearestToJoined_24 rfl (lv_at hl 1 rfl) ?_
    obtain ⟨r2, e1, h⟩ := b1_e h
    refine cVi (as := [.int x4, .int x1]) (rest := []) (c_X11_distanceToJoined hW e1) C hl.1 hH hS rfl (jC_1 hW) rfl wd_26 wd_1066 mw_X11_distanceToJoined wd_1064 rfl (rm_ok (by decide) (by decide)) (Nat.le_of_ble_eq_true rfl) ⟨Nat.zero_le _, Nat.zero_le _⟩ (by decide) dX11_nearestToJoined_25 (fun H locs hH hS => ?_)
    refine lv_istore (lv' := [(5, .int r2), (0, .ref (wB ω + 1)), (1, .int x1), (2, .int x2), (3, .int x3), (4, .int x4)]) hx hb dX11_nearestToJoined_28 hl (by decide) rfl (fun ls hl => ?_)
    refine lv_iload_n hx hb dX11_nearestToJoined_30 rfl (lv_at hl 2 rfl) ?_
    refine lv_iload hx hb dX11_nearestToJoined_31 (lv_at hl 5 rfl) ?_
    refine lv_ishr hx hb dX11_nearestToJoined_33 ?_
    refine lv_iconst (v := 1) hx hb dX11_nearestToJoined_34 (by decide) ?_
    refine lv_iand hx hb dX11_nearestToJoined_35 ?_
    refine lv_if_ne (tgt := 51) hx hb dX11_nearestToJoined_36 (by decide) (fun hc => ?_) (fun hc => ?_)
    · have h := ite_f hc h
      refine lv_iinc (v := x4 + 1) (lv' := [(4, .int (x4 + 1)), (5, .int r2), (0, .ref (wB ω + 1)), (1, .int x1), (2, .int x2), (3, .int x3)]) hx hb dX11_nearestToJoined_51 hl (k := 5) rfl rfl (by decide) rfl (fun ls hl => ?_)
      refine lv_goto (tgt := 9) hx hb dX11_nearestToJoined_54 (by decide) ?_
      exact hrec _ _ _ H locs ls hH hS (lv_sub hl [2, 3, 4, 5, 0] rfl) h
    · have h := ite_t hc h
      refine lv_iload hx hb dX11_nearestToJoined_39 (lv_at hl 0 rfl) ?_
      refine lv_iload_n hx hb dX11_nearestToJoined_41 rfl (lv_at hl 4 rfl) ?_
      refine lv_icmp_ge (tgt := 51) hx hb dX11_nearestToJoined_42 (by decide) (fun hc => ?_) (fun hc => ?_)
      · have h := ite_t hc h
        refine lv_iinc (v := x4 + 1) (lv' := [(4, .int (x4 + 1)), (5, .int r2), (0, .ref (wB ω + 1)), (1, .int x1), (2, .int x2), (3, .int x3)]) hx hb dX11_nearestToJoined_51 hl (k := 5) rfl rfl (by decide) rfl (fun ls hl => ?_)
        refine lv_goto (tgt := 9) hx hb dX11_nearestToJoined_54 (by decide) ?_
        exact hrec _ _ _ H locs ls hH hS (lv_sub hl [2, 3, 4, 5, 0] rfl) h
      · have h := ite_f hc h
        refine lv_iload hx hb dX11_nearestToJoined_45 (lv_at hl 0 rfl) ?_
        refine lv_istore_n (lv' := [(3, .int r2), (5, .int r2), (0, .ref (wB ω + 1)), (1, .int x1), (2, .int x2), (4, .int x4)]) hx hb dX11_nearestToJoined_47 rfl hl (by decide) rfl (fun ls hl => ?_)
        refine lv_iload hx hb dX11_nearestToJoined_48 (lv_at hl 5 rfl) ?_
        refine lv_istore_n (lv' := [(2, .int x4), (3, .int r2), (5, .int r2), (0, .ref (wB ω + 1)), (1, .int x1), (4, .int x4)]) hx hb dX11_nearestToJoined_50 rfl hl (by decide) rfl (fun ls hl => ?_)
        refine lv_iinc (v := x4 + 1) (lv' := [(4, .int (x4 + 1)), (2, .int x4), (3, .int r2), (5, .int r2), (0, .ref (wB ω + 1)), (1, .int x1)]) hx hb dX11_nearestToJoined_51 hl (k := 5) rfl rfl (by decide) rfl (fun ls hl => ?_)
        refine lv_goto (tgt := 9) hx hb dX11_nearestToJoined_54 (by decide) ?_
        exact hrec _ _ _ H locs ls hH hS (lv_sub hl [4, 5, 1, 2, 0] rfl) h
theorem wX11_nearestToJoined_l9 (hW : FWC ω) (C : Cx ω p s m args c cX11_nearestToJoined 6 RX11) (hr : meth.sig.returnType = some .int) (hk : meth.locks = false) {rr : Int32} {μ : Mem} {x1 : Int32} : ∀ (n : Nat) (x2 : Int32) (x3 : Int32) (x4 : Int32) (H : Heap) (locs : List Loc) (ls : Array Slot), Hd ω μ H → FS ω s H locs → lv_has ls 6 [(0, .ref (wB ω + 1)), (1, .int x1), (2, .int x2), (3, .int x3), (4, .int x4)] → fX11_nearestToJoined_l9 x1 μ n x2 x3 x4 = some rr → W p l e (rmd 5) s m args below meth c H locs 0 0 (MQ below (QR ω (some (.int rr)) μ) args s 0 0 (wA ω)) (F0 m 9 ls []) := by
  intro n
  induction n with
  | zero => intro x2 x3 x4 H locs ls hH hS hl h; cases h
  | succ n ih => intro x2 x3 x4 H locs ls hH hS hl h; exact wX11_nearestToJoined_s9 hW C hr hk ih hH hS hl h
set_option maxHeartbeats 4000000 in
set_option maxRecDepth 100000 in
theorem wX11_nearestToJoined_e (hW : FWC ω) (C : Cx ω p s m args c cX11_nearestToJoined 6 RX11) (hr : meth.sig.returnType = some .int) (hk : meth.locks = false) {rr : Int32} {μ : Mem} {x1 : Int32} {H : Heap} {locs : List Loc} {ls : Array Slot} (hH : Hd ω μ H) (hS : FS ω s H locs) (hl : lv_has ls 6 [(0, .ref (wB ω + 1)), (1, .int x1)]) (h : fX11_nearestToJoined x1 μ = some rr) : W p l e (rmd 5) s m args below meth c H locs 0 0 (MQ below (QR ω (some (.int rr)) μ) args s 0 0 (wA ω)) (F0 m 0 ls []) := by
  have hx := C.1
  have hb := C.2.1
  unfold fX11_nearestToJoined at h
  refine lv_iconst (v := 0) hx hb dX11_nearestToJoined_0 (by decide) ?_
  refine lv_istore_n (lv' := [(2, .int 0), (0, .ref (wB ω + 1)), (1, .int x1)]) hx hb dX11_nearestToJoined_1 rfl hl (by decide) rfl (fun ls hl => ?_)
  refine lv_ldcw (v := 1000000) hx hb C.2.2.2.1 (C.2.2.2.2.1 _ (tg wd_1063 rfl)) dX11_nearestToJoined_2 ?_
  refine lv_istore_n (lv' := [(3, .int 1000000), (2, .int 0), (0, .ref (wB ω + 1)), (1, .int x1)]) hx hb dX11_nearestToJoined_5 rfl hl (by decide) rfl (fun ls hl => ?_)
  refine lv_iconst (v := 0) hx hb dX11_nearestToJoined_6 (by decide) ?_
  refine lv_istore (lv' := [(4, .int 0), (3, .int 1000000), (2, .int 0), (0, .ref (wB ω + 1)), (1, .int x1)]) hx hb dX11_nearestToJoined_7 hl (by decide) rfl (fun ls hl => ?_)
  exact wX11_nearestToJoined_l9 hW C hr hk FU _ _ _ H locs ls hH hS (lv_sub hl [3, 4, 2, 1, 0] rfl) h
theorem c_X11_nearestToJoined {l : Launch} {ω : WW} {x1 : Int32} (hW : FWC ω) {μ : Mem} {rr : Int32} (h : fX11_nearestToJoined x1 μ = some rr) : Con l yX11_nearestToJoined cX11_nearestToJoined 6 (some .int) 5 ω [.ref (wB ω + 1), .int x1] μ (some (.int rr)) μ :=
  con_of (by decide) (Nat.le_of_ble_eq_true rfl) (fun p e s m args below meth c ls C hr hk hl hH hS => wX11_nearestToJoined_e hW C hr hk hH hS (lv_sub hl [0, 1] rfl) h)
set_option maxHeartbeats 4000000 in
set_option maxRecDepth 100000 in
theorem wX11_next_e (hW : FWC ω) (C : Cx ω p s m args c cX11_next 3 RX11) (hr : meth.sig.returnType = some .int) (hk : meth.locks = false) {rr : Int32} {μo : Mem} {x1 : Int32} {x2 : Int32} {μ : Mem} {H : Heap} {locs : List Loc} {ls : Array Slot} (hH : Hd ω μ H) (hS : FS ω s H locs) (hl : lv_has ls 3 [(0, .ref (wB ω + 1)), (1, .int x1), (2, .int x2)]) (h : fX11_next x1 x2 μ = some (rr, μo)) : W p l e (rmd 20) s m args below meth c H locs 0 0 (MQ below (QR ω (some (.int rr)) μo) args s 0 0 (wA ω)) (F0 m 0 ls []) := by
  have hx := C.1
  have hb := C.2.1
  unfold fX11_next at h
  refine lv_aload_n hx hb dX11_next_0 rfl (lv_at hl 0 rfl) ?_
  refine lv_iload_n hx hb dX11_next_1 rfl (lv_at hl 1 rfl) ?_
  obtain ⟨r2, e1, h⟩ := b1_e h
  refine cVi (as := [.int x1]) (rest := []) (c_X11_isHouse hW e1) C hl.1 hH hS rfl (jC_1 hW) rfl wd_15 wd_741 mw_X11_isHouse wd_739 rfl (rm_ok (by decide) (by decide)) (Nat.le_of_ble_eq_true rfl) ⟨Nat.zero_le _, Nat.zero_le _⟩ (by decide) dX11_next_2 (fun H locs hH hS => ?_)
  refine lv_if_eq (tgt := 16) hx hb dX11_next_5 (by decide) (fun hc => ?_) (fun hc => ?_)
  · have h := ite_t hc h
    refine lv_iconst (v := (-1)) hx hb dX11_next_16 (by decide) ?_
    exact h_iret C hr hk hH hS rfl (by cases h; rfl) dX11_next_17
  · have h := ite_f hc h
    refine lv_aload_n hx hb dX11_next_8 rfl (lv_at hl 0 rfl) ?_
    refine lv_iload_n hx hb dX11_next_9 rfl (lv_at hl 2 rfl) ?_
    obtain ⟨r4, e3, h⟩ := b1_e h
    refine cVi (as := [.int x2]) (rest := []) (c_X11_isHouse hW e3) C hl.1 hH hS rfl (jC_1 hW) rfl wd_15 wd_741 mw_X11_isHouse wd_739 rfl (rm_ok (by decide) (by decide)) (Nat.le_of_ble_eq_true rfl) ⟨Nat.zero_le _, Nat.zero_le _⟩ (by decide) dX11_next_10 (fun H locs hH hS => ?_)
    refine lv_if_ne (tgt := 18) hx hb dX11_next_13 (by decide) (fun hc => ?_) (fun hc => ?_)
    · have h := ite_f hc h
      refine lv_aload_n hx hb dX11_next_18 rfl (lv_at hl 0 rfl) ?_
      refine g_484 (i := 177) C hH (jC_1 hW) rfl dX11_next_19 ?_
      refine lv_aload_n hx hb dX11_next_22 rfl (lv_at hl 0 rfl) ?_
      refine g_476 (i := 17) C hH (jC_1 hW) rfl dX11_next_23 ?_
      refine lv_iload_n hx hb dX11_next_26 rfl (lv_at hl 1 rfl) ?_
      obtain ⟨μ6, e5, h⟩ := b1_e h
      refine cVv (as := [.ref (wB ω + 17), .int x1]) (rest := []) (c_X10_search hW (qC_17 hW) e5) C hl.1 hH hS rfl (jC_177 hW) rfl wd_1042 wd_1041 mw_X10_search wd_1040 rfl (rm_ok (by decide) (by decide)) (Nat.le_of_ble_eq_true rfl) ⟨Nat.zero_le _, Nat.zero_le _⟩ (by decide) dX11_next_27 (fun H locs hH hS => ?_)
      refine lv_aload_n hx hb dX11_next_30 rfl (lv_at hl 0 rfl) ?_
      refine g_484 (i := 177) C hH (jC_1 hW) rfl dX11_next_31 ?_
      refine g_412 (i := 179) C hH (jC_177 hW) rfl dX11_next_34 ?_
      refine lv_iload_n hx hb dX11_next_37 rfl (lv_at hl 2 rfl) ?_
      obtain ⟨b7, h⟩ := gd_e h
      refine h_iald C hH (jC_179 hW).1 (jC_179 hW).2.1 b7 dX11_next_38 ?_
      exact h_iret C hr hk hH hS rfl (by cases h; rfl) dX11_next_39
    · have h := ite_t hc h
      refine lv_iconst (v := (-1)) hx hb dX11_next_16 (by decide) ?_
      exact h_iret C hr hk hH hS rfl (by cases h; rfl) dX11_next_17
theorem c_X11_next {l : Launch} {ω : WW} {x1 : Int32} {x2 : Int32} (hW : FWC ω) {μ : Mem} {rr : Int32} {μo : Mem} (h : fX11_next x1 x2 μ = some (rr, μo)) : Con l yX11_next cX11_next 3 (some .int) 20 ω [.ref (wB ω + 1), .int x1, .int x2] μ (some (.int rr)) μo :=
  con_of (by decide) (Nat.le_of_ble_eq_true rfl) (fun p e s m args below meth c ls C hr hk hl hH hS => wX11_next_e hW C hr hk hH hS (lv_sub hl [0, 1, 2] rfl) h)
set_option maxHeartbeats 4000000 in
set_option maxRecDepth 100000 in
theorem wX7_keptApart_e {q : Nat} (hq : IsS ω q) (C : Cx ω p s m args c cX7_keptApart 3 RX7) (hr : meth.sig.returnType = some .int) (hk : meth.locks = false) {rr : Int32} {μ : Mem} {x1 : Int32} {x2 : Int32} {H : Heap} {locs : List Loc} {ls : Array Slot} (hH : Hd ω μ H) (hS : FS ω s H locs) (hl : lv_has ls 3 [(0, .ref (wB ω + q)), (1, .int x1), (2, .int x2)]) (h : fX7_keptApart q x1 x2 μ = some rr) : W p l e (rmd 2) s m args below meth c H locs 0 0 (MQ below (QR ω (some (.int rr)) μ) args s 0 0 (wA ω)) (F0 m 0 ls []) := by
  have hx := C.1
  have hb := C.2.1
  unfold fX7_keptApart at h
  refine lv_aload_n hx hb dX7_keptApart_0 rfl (lv_at hl 0 rfl) ?_
  refine lv_iload_n hx hb dX7_keptApart_1 rfl (lv_at hl 1 rfl) ?_
  refine lv_iconst (v := 3) hx hb dX7_keptApart_2 (by decide) ?_
  obtain ⟨r2, e1, h⟩ := b1_e h
  refine cVi (as := [.int x1, .int 3]) (rest := []) (c_X7_get hq e1) C hl.1 hH hS rfl hq.1 rfl wd_745 wd_744 mw_X7_get wd_791 rfl (rm_ok (by decide) (by decide)) (Nat.le_of_ble_eq_true rfl) ⟨Nat.zero_le _, Nat.zero_le _⟩ (by decide) dX7_keptApart_3 (fun H locs hH hS => ?_)
  refine lv_aload_n hx hb dX7_keptApart_6 rfl (lv_at hl 0 rfl) ?_
  refine lv_iload_n hx hb dX7_keptApart_7 rfl (lv_at hl 2 rfl) ?_
  refine lv_iconst (v := 3) hx hb dX7_keptApart_8 (by decide) ?_
  obtain ⟨r4, e3, h⟩ := b1_e h
  refine cVi (as := [.int x2, .int 3]) (rest := [.int r2]) (c_X7_get hq e3) C hl.1 hH hS rfl hq.1 rfl wd_745 wd_744 mw_X7_get wd_791 rfl (rm_ok (by decide) (by decide)) (Nat.le_of_ble_eq_true rfl) ⟨Nat.zero_le _, Nat.zero_le _⟩ (by decide) dX7_keptApart_9 (fun H locs hH hS => ?_)
  refine lv_isub hx hb dX7_keptApart_12 ?_
  refine h_mabs C hl.1 wd_1080 (rest := []) (Nat.le_of_ble_eq_true rfl) (Nat.le_of_ble_eq_true rfl) ⟨Nat.zero_le _, Nat.zero_le _⟩ dX7_keptApart_13 ?_
  refine h_topi (y := jabs (r2 - r4)) rfl ?_
  exact h_iret C hr hk hH hS rfl (by cases h; rfl) dX7_keptApart_16
theorem c_X7_keptApart {l : Launch} {ω : WW} {q : Nat} {x1 : Int32} {x2 : Int32} (hq : IsS ω q) {μ : Mem} {rr : Int32} (h : fX7_keptApart q x1 x2 μ = some rr) : Con l yX7_keptApart cX7_keptApart 3 (some .int) 2 ω [.ref (wB ω + q), .int x1, .int x2] μ (some (.int rr)) μ :=
  con_of (by decide) (Nat.le_of_ble_eq_true rfl) (fun p e s m args below meth c ls C hr hk hl hH hS => wX7_keptApart_e hq C hr hk hH hS (lv_sub hl [0, 1, 2] rfl) h)
set_option maxHeartbeats 4000000 in
set_option maxRecDepth 100000 in
theorem wX2_mayStayAlone_e (C : Cx ω p s m args c cX2_mayStayAlone 4 RX2) (hr : meth.sig.returnType = some .boolean) (hk : meth.locks = false) {rr : Int32} {μ : Mem} {x0 : Int32} {x1 : Int32} {x2 : Int32} {H : Heap} {locs : List Loc} {ls : Array Slot} (hH : Hd ω μ H) (hS : FS ω s H locs) (hl : lv_has ls 4 [(0, .int x0), (1, .int x1), (2, .int x2)]) (h : fX2_mayStayAlone x0 x1 x2 = some rr) : W p l e (rmd 1) s m args below meth c H locs 0 0 (MQ below (QR ω (some (.int rr)) μ) args s 0 0 (wA ω)) (F0 m 0 ls []) := by
  have hx := C.1
  have hb := C.2.1
  unfold fX2_mayStayAlone at h
  refine lv_iconst (v := 1) hx hb dX2_mayStayAlone_0 (by decide) ?_
  refine lv_iload_n hx hb dX2_mayStayAlone_1 rfl (lv_at hl 1 rfl) ?_
  refine lv_ishl hx hb dX2_mayStayAlone_2 ?_
  refine lv_iconst (v := 1) hx hb dX2_mayStayAlone_3 (by decide) ?_
  refine lv_isub hx hb dX2_mayStayAlone_4 ?_
  obtain ⟨y1, e2, h⟩ := bd_e h
  refine h_topi e2 ?_
  refine lv_istore_n (lv' := [(3, .int y1), (0, .int x0), (1, .int x1), (2, .int x2)]) hx hb dX2_mayStayAlone_5 rfl hl (by decide) rfl (fun ls hl => ?_)
  refine lv_iload_n hx hb dX2_mayStayAlone_6 rfl (lv_at hl 1 rfl) ?_
  refine lv_iconst (v := 2) hx hb dX2_mayStayAlone_7 (by decide) ?_
  refine lv_irem hx hb dX2_mayStayAlone_8 (by decide) ?_
  refine lv_iconst (v := 1) hx hb dX2_mayStayAlone_9 (by decide) ?_
  refine lv_icmp_ne (tgt := 24) hx hb dX2_mayStayAlone_10 (by decide) (fun hc => ?_) (fun hc => ?_)
  · have h := ite_f hc h
    refine lv_iconst (v := 0) hx hb dX2_mayStayAlone_24 (by decide) ?_
    exact h_zret (y := 0) C hr hk hH hS rfl (by cases h; rfl) dX2_mayStayAlone_25
  · have h := ite_t hc h
    refine lv_iload_n hx hb dX2_mayStayAlone_13 rfl (lv_at hl 3 rfl) ?_
    refine lv_iload_n hx hb dX2_mayStayAlone_14 rfl (lv_at hl 0 rfl) ?_
    refine lv_iand hx hb dX2_mayStayAlone_15 ?_
    refine lv_iload_n hx hb dX2_mayStayAlone_16 rfl (lv_at hl 0 rfl) ?_
    refine lv_icmp_ne (tgt := 24) hx hb dX2_mayStayAlone_17 (by decide) (fun hc => ?_) (fun hc => ?_)
    · have h := ite_f hc h
      refine lv_iconst (v := 0) hx hb dX2_mayStayAlone_24 (by decide) ?_
      exact h_zret (y := 0) C hr hk hH hS rfl (by cases h; rfl) dX2_mayStayAlone_25
    · have h := ite_t hc h
      refine lv_iconst (v := 1) hx hb dX2_mayStayAlone_20 (by decide) ?_
      refine lv_goto (tgt := 25) hx hb dX2_mayStayAlone_21 (by decide) ?_
      exact h_zret (y := 1) C hr hk hH hS rfl (by cases h; rfl) dX2_mayStayAlone_25
theorem c_X2_mayStayAlone {l : Launch} {ω : WW} {x0 : Int32} {x1 : Int32} {x2 : Int32} {μ : Mem} {rr : Int32} (h : fX2_mayStayAlone x0 x1 x2 = some rr) : Con l yX2_mayStayAlone cX2_mayStayAlone 4 (some .boolean) 1 ω [.int x0, .int x1, .int x2] μ (some (.int rr)) μ :=
  con_of (by decide) (Nat.le_of_ble_eq_true rfl) (fun p e s m args below meth c ls C hr hk hl hH hS => wX2_mayStayAlone_e C hr hk hH hS (lv_sub hl [0, 1, 2] rfl) h)
set_option maxHeartbeats 4000000 in
set_option maxRecDepth 100000 in
theorem wX2_pairFrom_b11 {D : Nat} (hD : 10 ≤ D) {q1 : Nat} (hW : FWC ω) (hq1 : IsS ω q1) (C : Cx ω p s m args c cX2_pairFrom 8 RX2) (hr : meth.sig.returnType = none) (hk : meth.locks = false) {μo : Mem} {go : Nat → Int32 → Int32 → Int32 → Int32 → Mem → Option Mem} (hgo : ∀ (q1g : Nat) (x2g : Int32) (x3g : Int32) (x4g : Int32) (x5g : Int32) (μ1 : Mem) (μ2 : Mem) (_ : IsS ω q1g), go q1g x2g x3g x4g x5g μ1 = some μ2 → Con l yX2_pairFrom cX2_pairFrom 8 (none) D ω [.ref (wB ω + 183), .ref (wB ω + q1g), .int x2g, .int x3g, .int x4g, .int x5g] μ1 none μ2) {x5 : Int32} {μ : Mem} {H : Heap} {locs : List Loc} {ls : Array Slot} (hH : Hd ω μ H) (hS : FS ω s H locs) (hl : lv_has ls 8 [(0, .ref (wB ω + 183)), (5, .int x5)]) (h : fX2_pairFrom_b11 go q1 x5 μ = some μo) : W p l e (rmd (D + 1)) s m args below meth c H locs 0 0 (MQ below (QR ω none μo) args s 0 0 (wA ω)) (F0 m 11 ls []) := by
  have hx := C.1
  have hb := C.2.1
  unfold fX2_pairFrom_b11 at h
  refine lv_iload hx hb dX2_pairFrom_11 (lv_at hl 1 rfl) ?_
  refine lv_aload_n hx hb dX2_pairFrom_13 rfl (lv_at hl 0 rfl) ?_
  refine g_445 C hH (jC_183 hW) dX2_pairFrom_14 ?_
  refine lv_icmp_ge (tgt := 41) hx hb dX2_pairFrom_17 (by decide) (fun hc => ?_) (fun hc => ?_)
  · have h := ite_t hc h
    exact h_vret C hr hk hH hS (by cases h; rfl) dX2_pairFrom_41
  · have h := ite_f hc h
    refine lv_aload_n hx hb dX2_pairFrom_20 rfl (lv_at hl 0 rfl) ?_
    refine lv_iload hx hb dX2_pairFrom_21 (lv_at hl 1 rfl) ?_
    obtain ⟨μ1, e2, h⟩ := bd_e h
    refine p_445 C hH hS (jC_183 hW) dX2_pairFrom_23 (fun H locs hH hS => ?_)
    have hH := Hd.to e2 hH
    refine lv_aload_n hx hb dX2_pairFrom_26 rfl (lv_at hl 0 rfl) ?_
    refine g_442 (i := 184) C hH (jC_183 hW) rfl dX2_pairFrom_27 ?_
    refine lv_iconst (v := 0) hx hb dX2_pairFrom_30 (by decide) ?_
    refine lv_aload_n hx hb dX2_pairFrom_31 rfl (lv_at hl 0 rfl) ?_
    refine g_443 (i := 185) C hH (jC_183 hW) rfl dX2_pairFrom_32 ?_
    refine lv_iconst (v := 0) hx hb dX2_pairFrom_35 (by decide) ?_
    refine lv_bipush (v := 6) hx hb dX2_pairFrom_36 (by decide) ?_
    obtain ⟨b3, h⟩ := gd_e h
    obtain ⟨μ4, e5, h⟩ := bd_e h
    refine h_copyi (rest := []) C hl.1 hH hS (jC_184 hW).1 (jC_184 hW).2.1 (jC_185 hW).1 (jC_185 hW).2.1 wd_1108 (cpo_e b3) (rm_1 hD) (rm_cp hD (Nat.le_of_ble_eq_true rfl)) dX2_pairFrom_38 (fun H locs hH hS => ?_)
    have hH := Hd.to e5 hH
    exact h_vret C hr hk hH hS (by cases h; rfl) dX2_pairFrom_41
set_option maxHeartbeats 4000000 in
set_option maxRecDepth 100000 in
theorem wX2_pairFrom_s71 {D : Nat} (hD : 10 ≤ D) {q1 : Nat} (hW : FWC ω) (hq1 : IsS ω q1) (C : Cx ω p s m args c cX2_pairFrom 8 RX2) (hr : meth.sig.returnType = none) (hk : meth.locks = false) {μo : Mem} {go : Nat → Int32 → Int32 → Int32 → Int32 → Mem → Option Mem} (hgo : ∀ (q1g : Nat) (x2g : Int32) (x3g : Int32) (x4g : Int32) (x5g : Int32) (μ1 : Mem) (μ2 : Mem) (_ : IsS ω q1g), go q1g x2g x3g x4g x5g μ1 = some μ2 → Con l yX2_pairFrom cX2_pairFrom 8 (none) D ω [.ref (wB ω + 183), .ref (wB ω + q1g), .int x2g, .int x3g, .int x4g, .int x5g] μ1 none μ2) {x2 : Int32} {x3 : Int32} {x4 : Int32} {x5 : Int32} {x6 : Int32} {rec : Int32 → Mem → Option Mem} (hrec : ∀ (z6 : Int32) (ν : Mem) (H : Heap) (locs : List Loc) (ls : Array Slot), Hd ω ν H → FS ω s H locs → lv_has ls 8 [(0, .ref (wB ω + 183)), (1, .ref (wB ω + q1)), (2, .int x2), (3, .int x3), (4, .int x4), (5, .int x5), (6, .int z6)] → rec z6 ν = some μo → W p l e (rmd (D + 1)) s m args below meth c H locs 0 0 (MQ below (QR ω none μo) args s 0 0 (wA ω)) (F0 m 71 ls [])) {K : Mem → Option Mem} (hK : ∀ (ν : Mem) (H : Heap) (locs : List Loc) (ls : Array Slot), Hd ω ν H → FS ω s H locs → lv_has ls 8 [(0, .ref (wB ω + 183)), (1, .ref (wB ω + q1)), (2, .int x2), (3, .int x3), (4, .int x4), (5, .int x5)] → K ν = some μo → W p l e (rmd (D + 1)) s m args below meth c H locs 0 0 (MQ below (QR ω none μo) args s 0 0 (wA ω)) (F0 m 150 ls [])) {μ : Mem} {H : Heap} {locs : List Loc} {ls : Array Slot} (hH : Hd ω μ H) (hS : FS ω s H locs) (hl : lv_has ls 8 [(0, .ref (wB ω + 183)), (1, .ref (wB ω + q1)), (2, .int x2), (3, .int x3), (4, .int x4), (5, .int x5), (6, .int x6)]) (h : fX2_pairFrom_s71 go rec K q1 x2 x3 x4 x5 x6 μ = some μo) : W p l e (rmd (D + 1)) s m args below meth c H locs 0 0 (MQ below (QR ω none μo) args s 0 0 (wA ω)) (F0 m 71 ls []) := by
  have hx := C.1
  have hb := C.2.1
  unfold fX2_pairFrom_s71 at h
  refine lv_iload hx hb dX2_pairFrom_71 (lv_at hl 6 rfl) ?_
  refine lv_iload_n hx hb dX2_pairFrom_73 rfl (lv_at hl 2 rfl) ?_
  refine lv_icmp_ge (tgt := 150) hx hb dX2_pairFrom_74 (by decide) (fun hc => ?_) (fun hc => ?_)
  · have h := ite_t hc h
    exact hK _ H locs ls hH hS (lv_sub hl [0, 1, 2, 3, 4, 5] rfl) h
  · have h := ite_f hc h
    refine lv_iload hx hb dX2_pairFrom_77 (lv_at hl 6 rfl) ?_
    refine lv_bipush (v := 6) hx hb dX2_pairFrom_79 (by decide) ?_
    refine lv_icmp_ge (tgt := 150) hx hb dX2_pairFrom_81 (by decide) (fun hc => ?_) (fun hc => ?_)
    · have h := ite_t hc h
      exact hK _ H locs ls hH hS (lv_sub hl [0, 1, 2, 3, 4, 5] rfl) h
    · have h := ite_f hc h
      refine lv_iload hx hb dX2_pairFrom_84 (lv_at hl 4 rfl) ?_
      refine lv_iload hx hb dX2_pairFrom_86 (lv_at hl 6 rfl) ?_
      refine lv_ishr hx hb dX2_pairFrom_88 ?_
      refine lv_iconst (v := 1) hx hb dX2_pairFrom_89 (by decide) ?_
      refine lv_iand hx hb dX2_pairFrom_90 ?_
      refine lv_if_ne (tgt := 144) hx hb dX2_pairFrom_91 (by decide) (fun hc => ?_) (fun hc => ?_)
      · have h := ite_f hc h
        refine lv_iinc (v := x6 + 1) (lv' := [(6, .int (x6 + 1)), (0, .ref (wB ω + 183)), (1, .ref (wB ω + q1)), (2, .int x2), (3, .int x3), (4, .int x4), (5, .int x5)]) hx hb dX2_pairFrom_144 hl (k := 6) rfl rfl (by decide) rfl (fun ls hl => ?_)
        refine lv_goto (tgt := 71) hx hb dX2_pairFrom_147 (by decide) ?_
        exact hrec _ _ H locs ls hH hS (lv_sub hl [1, 2, 3, 4, 5, 6, 0] rfl) h
      · have h := ite_t hc h
        refine lv_aload_n hx hb dX2_pairFrom_94 rfl (lv_at hl 0 rfl) ?_
        refine g_442 (i := 184) C hH (jC_183 hW) rfl dX2_pairFrom_95 ?_
        refine lv_iload_n hx hb dX2_pairFrom_98 rfl (lv_at hl 3 rfl) ?_
        refine lv_iload hx hb dX2_pairFrom_99 (lv_at hl 6 rfl) ?_
        obtain ⟨b8, h⟩ := gd_e h
        obtain ⟨μ9, e10, h⟩ := bd_e h
        refine h_iast C hH hS (jC_184 hW).1 (jC_184 hW).2.1 b8 dX2_pairFrom_101 (fun H locs hH hS => ?_)
        have hH := Hd.to e10 hH
        refine lv_aload_n hx hb dX2_pairFrom_102 rfl (lv_at hl 0 rfl) ?_
        refine g_442 (i := 184) C hH (jC_183 hW) rfl dX2_pairFrom_103 ?_
        refine lv_iload hx hb dX2_pairFrom_106 (lv_at hl 6 rfl) ?_
        refine lv_iload_n hx hb dX2_pairFrom_108 rfl (lv_at hl 3 rfl) ?_
        obtain ⟨b11, h⟩ := gd_e h
        obtain ⟨μ12, e13, h⟩ := bd_e h
        refine h_iast C hH hS (jC_184 hW).1 (jC_184 hW).2.1 b11 dX2_pairFrom_109 (fun H locs hH hS => ?_)
        have hH := Hd.to e13 hH
        refine lv_iload hx hb dX2_pairFrom_110 (lv_at hl 4 rfl) ?_
        refine lv_iconst (v := 1) hx hb dX2_pairFrom_112 (by decide) ?_
        refine lv_iload_n hx hb dX2_pairFrom_113 rfl (lv_at hl 3 rfl) ?_
        refine lv_ishl hx hb dX2_pairFrom_114 ?_
        refine lv_ior hx hb dX2_pairFrom_115 ?_
        refine lv_iconst (v := 1) hx hb dX2_pairFrom_116 (by decide) ?_
        refine lv_iload hx hb dX2_pairFrom_117 (lv_at hl 6 rfl) ?_
        refine lv_ishl hx hb dX2_pairFrom_119 ?_
        refine lv_ior hx hb dX2_pairFrom_120 ?_
        obtain ⟨y14, e15, h⟩ := bd_e h
        refine h_topi e15 ?_
        refine lv_istore (lv' := [(7, .int y14), (0, .ref (wB ω + 183)), (1, .ref (wB ω + q1)), (2, .int x2), (3, .int x3), (4, .int x4), (5, .int x5), (6, .int x6)]) hx hb dX2_pairFrom_121 hl (by decide) rfl (fun ls hl => ?_)
        refine lv_aload_n hx hb dX2_pairFrom_123 rfl (lv_at hl 1 rfl) ?_
        refine lv_aload_n hx hb dX2_pairFrom_124 rfl (lv_at hl 2 rfl) ?_
        refine lv_iload_n hx hb dX2_pairFrom_125 rfl (lv_at hl 3 rfl) ?_
        refine lv_iload_n hx hb dX2_pairFrom_126 rfl (lv_at hl 4 rfl) ?_
        refine lv_iconst (v := 1) hx hb dX2_pairFrom_127 (by decide) ?_
        refine lv_iadd hx hb dX2_pairFrom_128 ?_
        refine lv_iload hx hb dX2_pairFrom_129 (lv_at hl 0 rfl) ?_
        refine lv_iload hx hb dX2_pairFrom_131 (lv_at hl 6 rfl) ?_
        refine lv_aload_n hx hb dX2_pairFrom_133 rfl (lv_at hl 2 rfl) ?_
        refine lv_iload_n hx hb dX2_pairFrom_134 rfl (lv_at hl 4 rfl) ?_
        refine lv_iload hx hb dX2_pairFrom_135 (lv_at hl 7 rfl) ?_
        obtain ⟨r17, e16, h⟩ := b1_e h
        refine cVi (as := [.int x3, .int x6]) (rest := [.int x5, .int y14, .int (x3 + 1), .int x2, .ref (wB ω + q1), .ref (wB ω + 183)]) (c_X7_keptApart hq1 e16) C hl.1 hH hS rfl hq1.1 rfl wd_1078 wd_1077 mw_X7_keptApart wd_1109 rfl (rm_ok (by omega) (by decide)) (Nat.le_of_ble_eq_true rfl) ⟨Nat.zero_le _, Nat.zero_le _⟩ (by decide) dX2_pairFrom_137 (fun H locs hH hS => ?_)
        refine lv_iadd hx hb dX2_pairFrom_140 ?_
        obtain ⟨μ19, e18, h⟩ := b1_e h
        refine cVv (as := [.ref (wB ω + q1), .int x2, .int (x3 + 1), .int y14, .int (x5 + r17)]) (rest := []) (hgo _ _ _ _ _ _ _ hq1 e18) C hl.1 hH hS rfl (jC_183 hW) rfl wd_28 wd_1106 mw_X2_pairFrom wd_1104 rfl (rm_ok (by omega) (by decide)) (Nat.le_of_ble_eq_true rfl) ⟨Nat.zero_le _, Nat.zero_le _⟩ (by decide) dX2_pairFrom_141 (fun H locs hH hS => ?_)
        refine lv_iinc (v := x6 + 1) (lv' := [(6, .int (x6 + 1)), (7, .int y14), (0, .ref (wB ω + 183)), (1, .ref (wB ω + q1)), (2, .int x2), (3, .int x3), (4, .int x4), (5, .int x5)]) hx hb dX2_pairFrom_144 hl (k := 7) rfl rfl (by decide) rfl (fun ls hl => ?_)
        refine lv_goto (tgt := 71) hx hb dX2_pairFrom_147 (by decide) ?_
        exact hrec _ _ H locs ls hH hS (lv_sub hl [2, 3, 4, 5, 6, 7, 0] rfl) h
theorem wX2_pairFrom_l71 {D : Nat} (hD : 10 ≤ D) {q1 : Nat} (hW : FWC ω) (hq1 : IsS ω q1) (C : Cx ω p s m args c cX2_pairFrom 8 RX2) (hr : meth.sig.returnType = none) (hk : meth.locks = false) {μo : Mem} {go : Nat → Int32 → Int32 → Int32 → Int32 → Mem → Option Mem} (hgo : ∀ (q1g : Nat) (x2g : Int32) (x3g : Int32) (x4g : Int32) (x5g : Int32) (μ1 : Mem) (μ2 : Mem) (_ : IsS ω q1g), go q1g x2g x3g x4g x5g μ1 = some μ2 → Con l yX2_pairFrom cX2_pairFrom 8 (none) D ω [.ref (wB ω + 183), .ref (wB ω + q1g), .int x2g, .int x3g, .int x4g, .int x5g] μ1 none μ2) {x2 : Int32} {x3 : Int32} {x4 : Int32} {x5 : Int32} {K : Mem → Option Mem} (hK : ∀ (ν : Mem) (H : Heap) (locs : List Loc) (ls : Array Slot), Hd ω ν H → FS ω s H locs → lv_has ls 8 [(0, .ref (wB ω + 183)), (1, .ref (wB ω + q1)), (2, .int x2), (3, .int x3), (4, .int x4), (5, .int x5)] → K ν = some μo → W p l e (rmd (D + 1)) s m args below meth c H locs 0 0 (MQ below (QR ω none μo) args s 0 0 (wA ω)) (F0 m 150 ls [])) : ∀ (n : Nat) (x6 : Int32) (μ : Mem) (H : Heap) (locs : List Loc) (ls : Array Slot), Hd ω μ H → FS ω s H locs → lv_has ls 8 [(0, .ref (wB ω + 183)), (1, .ref (wB ω + q1)), (2, .int x2), (3, .int x3), (4, .int x4), (5, .int x5), (6, .int x6)] → fX2_pairFrom_l71 go K q1 x2 x3 x4 x5 n x6 μ = some μo → W p l e (rmd (D + 1)) s m args below meth c H locs 0 0 (MQ below (QR ω none μo) args s 0 0 (wA ω)) (F0 m 71 ls []) := by
  intro n
  induction n with
  | zero => intro x6 μ H locs ls hH hS hl h; cases h
  | succ n ih => intro x6 μ H locs ls hH hS hl h; exact wX2_pairFrom_s71 hD hW hq1 C hr hk hgo ih hK hH hS hl h
set_option maxHeartbeats 4000000 in
set_option maxRecDepth 100000 in
theorem wX2_pairFrom_b150 {D : Nat} (hD : 10 ≤ D) {q1 : Nat} (hW : FWC ω) (hq1 : IsS ω q1) (C : Cx ω p s m args c cX2_pairFrom 8 RX2) (hr : meth.sig.returnType = none) (hk : meth.locks = false) {μo : Mem} {go : Nat → Int32 → Int32 → Int32 → Int32 → Mem → Option Mem} (hgo : ∀ (q1g : Nat) (x2g : Int32) (x3g : Int32) (x4g : Int32) (x5g : Int32) (μ1 : Mem) (μ2 : Mem) (_ : IsS ω q1g), go q1g x2g x3g x4g x5g μ1 = some μ2 → Con l yX2_pairFrom cX2_pairFrom 8 (none) D ω [.ref (wB ω + 183), .ref (wB ω + q1g), .int x2g, .int x3g, .int x4g, .int x5g] μ1 none μ2) {x2 : Int32} {x3 : Int32} {x4 : Int32} {x5 : Int32} {μ : Mem} {H : Heap} {locs : List Loc} {ls : Array Slot} (hH : Hd ω μ H) (hS : FS ω s H locs) (hl : lv_has ls 8 [(0, .ref (wB ω + 183)), (1, .ref (wB ω + q1)), (2, .int x2), (3, .int x3), (4, .int x4), (5, .int x5)]) (h : fX2_pairFrom_b150 go q1 x2 x3 x4 x5 μ = some μo) : W p l e (rmd (D + 1)) s m args below meth c H locs 0 0 (MQ below (QR ω none μo) args s 0 0 (wA ω)) (F0 m 150 ls []) := by
  have hx := C.1
  have hb := C.2.1
  unfold fX2_pairFrom_b150 at h
  refine lv_iload_n hx hb dX2_pairFrom_150 rfl (lv_at hl 2 rfl) ?_
  refine lv_iload_n hx hb dX2_pairFrom_151 rfl (lv_at hl 3 rfl) ?_
  refine lv_iload hx hb dX2_pairFrom_152 (lv_at hl 4 rfl) ?_
  obtain ⟨r22, e21, h⟩ := b1_e h
  refine cSi (as := [.int x2, .int x3, .int x4]) (rest := []) (c_X2_mayStayAlone e21) C hl.1 hH hS rfl wd_1111 mw_X2_mayStayAlone wd_1110 rfl (rm_ok (by omega) (by decide)) (Nat.le_of_ble_eq_true rfl) ⟨Nat.zero_le _, Nat.zero_le _⟩ dX2_pairFrom_154 (fun H locs hH hS => ?_)
  refine lv_if_eq (tgt := 181) hx hb dX2_pairFrom_157 (by decide) (fun hc => ?_) (fun hc => ?_)
  · have h := ite_t hc h
    exact h_vret C hr hk hH hS (by cases h; rfl) dX2_pairFrom_181
  · have h := ite_f hc h
    refine lv_aload_n hx hb dX2_pairFrom_160 rfl (lv_at hl 0 rfl) ?_
    refine g_442 (i := 184) C hH (jC_183 hW) rfl dX2_pairFrom_161 ?_
    refine lv_iload_n hx hb dX2_pairFrom_164 rfl (lv_at hl 3 rfl) ?_
    refine lv_bipush (v := (-2)) hx hb dX2_pairFrom_165 (by decide) ?_
    obtain ⟨b23, h⟩ := gd_e h
    obtain ⟨μ24, e25, h⟩ := bd_e h
    refine h_iast C hH hS (jC_184 hW).1 (jC_184 hW).2.1 b23 dX2_pairFrom_167 (fun H locs hH hS => ?_)
    have hH := Hd.to e25 hH
    refine lv_aload_n hx hb dX2_pairFrom_168 rfl (lv_at hl 0 rfl) ?_
    refine lv_aload_n hx hb dX2_pairFrom_169 rfl (lv_at hl 1 rfl) ?_
    refine lv_iload_n hx hb dX2_pairFrom_170 rfl (lv_at hl 2 rfl) ?_
    refine lv_iload_n hx hb dX2_pairFrom_171 rfl (lv_at hl 3 rfl) ?_
    refine lv_iconst (v := 1) hx hb dX2_pairFrom_172 (by decide) ?_
    refine lv_iadd hx hb dX2_pairFrom_173 ?_
    refine lv_iload hx hb dX2_pairFrom_174 (lv_at hl 4 rfl) ?_
    refine lv_iload hx hb dX2_pairFrom_176 (lv_at hl 5 rfl) ?_
    obtain ⟨μ27, e26, h⟩ := b1_e h
    refine cVv (as := [.ref (wB ω + q1), .int x2, .int (x3 + 1), .int x4, .int x5]) (rest := []) (hgo _ _ _ _ _ _ _ hq1 e26) C hl.1 hH hS rfl (jC_183 hW) rfl wd_28 wd_1106 mw_X2_pairFrom wd_1104 rfl (rm_ok (by omega) (by decide)) (Nat.le_of_ble_eq_true rfl) ⟨Nat.zero_le _, Nat.zero_le _⟩ (by decide) dX2_pairFrom_178 (fun H locs hH hS => ?_)
    exact h_vret C hr hk hH hS (by cases h; rfl) dX2_pairFrom_181
set_option maxHeartbeats 4000000 in
set_option maxRecDepth 100000 in
theorem wX2_pairFrom_b {D : Nat} (hD : 10 ≤ D) {q1 : Nat} (hW : FWC ω) (hq1 : IsS ω q1) (C : Cx ω p s m args c cX2_pairFrom 8 RX2) (hr : meth.sig.returnType = none) (hk : meth.locks = false) {μo : Mem} {go : Nat → Int32 → Int32 → Int32 → Int32 → Mem → Option Mem} (hgo : ∀ (q1g : Nat) (x2g : Int32) (x3g : Int32) (x4g : Int32) (x5g : Int32) (μ1 : Mem) (μ2 : Mem) (_ : IsS ω q1g), go q1g x2g x3g x4g x5g μ1 = some μ2 → Con l yX2_pairFrom cX2_pairFrom 8 (none) D ω [.ref (wB ω + 183), .ref (wB ω + q1g), .int x2g, .int x3g, .int x4g, .int x5g] μ1 none μ2) {x2 : Int32} {x3 : Int32} {x4 : Int32} {x5 : Int32} {μ : Mem} {H : Heap} {locs : List Loc} {ls : Array Slot} (hH : Hd ω μ H) (hS : FS ω s H locs) (hl : lv_has ls 8 [(0, .ref (wB ω + 183)), (1, .ref (wB ω + q1)), (2, .int x2), (3, .int x3), (4, .int x4), (5, .int x5)]) (h : fX2_pairFrom_b go q1 x2 x3 x4 x5 μ = some μo) : W p l e (rmd (D + 1)) s m args below meth c H locs 0 0 (MQ below (QR ω none μo) args s 0 0 (wA ω)) (F0 m 0 ls []) := by
  have hx := C.1
  have hb := C.2.1
  unfold fX2_pairFrom_b at h
  refine lv_iload_n hx hb dX2_pairFrom_0 rfl (lv_at hl 3 rfl) ?_
  refine lv_iload_n hx hb dX2_pairFrom_1 rfl (lv_at hl 2 rfl) ?_
  refine lv_icmp_ge (tgt := 11) hx hb dX2_pairFrom_2 (by decide) (fun hc => ?_) (fun hc => ?_)
  · have h := ite_t hc h
    exact wX2_pairFrom_b11 hD hW hq1 C hr hk hgo hH hS (lv_sub hl [0, 5] rfl) h
  · have h := ite_f hc h
    refine lv_iload_n hx hb dX2_pairFrom_5 rfl (lv_at hl 3 rfl) ?_
    refine lv_bipush (v := 6) hx hb dX2_pairFrom_6 (by decide) ?_
    refine lv_icmp_lt (tgt := 42) hx hb dX2_pairFrom_8 (by decide) (fun hc => ?_) (fun hc => ?_)
    · have h := ite_t hc h
      refine lv_iload hx hb dX2_pairFrom_42 (lv_at hl 4 rfl) ?_
      refine lv_iload_n hx hb dX2_pairFrom_44 rfl (lv_at hl 3 rfl) ?_
      refine lv_ishr hx hb dX2_pairFrom_45 ?_
      refine lv_iconst (v := 1) hx hb dX2_pairFrom_46 (by decide) ?_
      refine lv_iand hx hb dX2_pairFrom_47 ?_
      refine lv_iconst (v := 1) hx hb dX2_pairFrom_48 (by decide) ?_
      refine lv_icmp_ne (tgt := 66) hx hb dX2_pairFrom_49 (by decide) (fun hc => ?_) (fun hc => ?_)
      · have h := ite_f hc h
        refine lv_iload_n hx hb dX2_pairFrom_66 rfl (lv_at hl 3 rfl) ?_
        refine lv_iconst (v := 1) hx hb dX2_pairFrom_67 (by decide) ?_
        refine lv_iadd hx hb dX2_pairFrom_68 ?_
        obtain ⟨y6, e7, h⟩ := bd_e h
        refine h_topi e7 ?_
        refine lv_istore (lv' := [(6, .int y6), (0, .ref (wB ω + 183)), (1, .ref (wB ω + q1)), (2, .int x2), (3, .int x3), (4, .int x4), (5, .int x5)]) hx hb dX2_pairFrom_69 hl (by decide) rfl (fun ls hl => ?_)
        refine wX2_pairFrom_l71 hD hW hq1 C hr hk hgo (fun μ20 H locs ls hH hS hl h => ?_) FU _ _ H locs ls hH hS (lv_sub hl [1, 2, 3, 4, 5, 6, 0] rfl) h
        exact wX2_pairFrom_b150 hD hW hq1 C hr hk hgo hH hS hl h
      · have h := ite_t hc h
        refine lv_aload_n hx hb dX2_pairFrom_52 rfl (lv_at hl 0 rfl) ?_
        refine lv_aload_n hx hb dX2_pairFrom_53 rfl (lv_at hl 1 rfl) ?_
        refine lv_iload_n hx hb dX2_pairFrom_54 rfl (lv_at hl 2 rfl) ?_
        refine lv_iload_n hx hb dX2_pairFrom_55 rfl (lv_at hl 3 rfl) ?_
        refine lv_iconst (v := 1) hx hb dX2_pairFrom_56 (by decide) ?_
        refine lv_iadd hx hb dX2_pairFrom_57 ?_
        refine lv_iload hx hb dX2_pairFrom_58 (lv_at hl 4 rfl) ?_
        refine lv_iload hx hb dX2_pairFrom_60 (lv_at hl 5 rfl) ?_
        obtain ⟨μ29, e28, h⟩ := b1_e h
        refine cVv (as := [.ref (wB ω + q1), .int x2, .int (x3 + 1), .int x4, .int x5]) (rest := []) (hgo _ _ _ _ _ _ _ hq1 e28) C hl.1 hH hS rfl (jC_183 hW) rfl wd_28 wd_1106 mw_X2_pairFrom wd_1104 rfl (rm_ok (by omega) (by decide)) (Nat.le_of_ble_eq_true rfl) ⟨Nat.zero_le _, Nat.zero_le _⟩ (by decide) dX2_pairFrom_62 (fun H locs hH hS => ?_)
        exact h_vret C hr hk hH hS (by cases h; rfl) dX2_pairFrom_65
    · have h := ite_f hc h
      exact wX2_pairFrom_b11 hD hW hq1 C hr hk hgo hH hS (lv_sub hl [0, 5] rfl) h
theorem c_X2_pairFrom_b {l : Launch} {ω : WW} {D : Nat} (hD : 10 ≤ D) {go : Nat → Int32 → Int32 → Int32 → Int32 → Mem → Option Mem} (hgo : ∀ (q1g : Nat) (x2g : Int32) (x3g : Int32) (x4g : Int32) (x5g : Int32) (μ1 : Mem) (μ2 : Mem) (_ : IsS ω q1g), go q1g x2g x3g x4g x5g μ1 = some μ2 → Con l yX2_pairFrom cX2_pairFrom 8 (none) D ω [.ref (wB ω + 183), .ref (wB ω + q1g), .int x2g, .int x3g, .int x4g, .int x5g] μ1 none μ2) {q1 : Nat} {x2 : Int32} {x3 : Int32} {x4 : Int32} {x5 : Int32} (hW : FWC ω) (hq1 : IsS ω q1) {μ : Mem} {μo : Mem} (h : fX2_pairFrom_b go q1 x2 x3 x4 x5 μ = some μo) : Con l yX2_pairFrom cX2_pairFrom 8 none (D + 1) ω [.ref (wB ω + 183), .ref (wB ω + q1), .int x2, .int x3, .int x4, .int x5] μ none μo :=
  con_of (by decide) (Nat.le_of_ble_eq_true rfl) (fun p e s m args below meth c ls C hr hk hl hH hS => wX2_pairFrom_b hD hW hq1 C hr hk hgo hH hS (lv_sub hl [0, 1, 2, 3, 4, 5] rfl) h)
theorem c_X2_pairFrom_n {l : Launch} {ω : WW} (hW : FWC ω) : ∀ (n : Nat) (q1 : Nat) (x2 : Int32) (x3 : Int32) (x4 : Int32) (x5 : Int32) (μ : Mem) (μo : Mem) (hq1 : IsS ω q1), fX2_pairFrom n q1 x2 x3 x4 x5 μ = some μo → Con l yX2_pairFrom cX2_pairFrom 8 none (10 + 1 * n) ω [.ref (wB ω + 183), .ref (wB ω + q1), .int x2, .int x3, .int x4, .int x5] μ none μo := by
  intro n
  induction n with
  | zero => intro q1 x2 x3 x4 x5 μ μo hq1 h; cases h
  | succ n ih => intro q1 x2 x3 x4 x5 μ μo hq1 h; exact c_X2_pairFrom_b (D := 10 + 1 * n) (by omega) ih hW hq1 h
set_option maxHeartbeats 4000000 in
set_option maxRecDepth 100000 in
theorem wX2_search_e {q1 : Nat} (hW : FWC ω) (hq1 : IsS ω q1) (C : Cx ω p s m args c cX2_search 3 RX2) (hr : meth.sig.returnType = none) (hk : meth.locks = false) {μo : Mem} {x2 : Int32} {μ : Mem} {H : Heap} {locs : List Loc} {ls : Array Slot} (hH : Hd ω μ H) (hS : FS ω s H locs) (hl : lv_has ls 3 [(0, .ref (wB ω + 183)), (1, .ref (wB ω + q1)), (2, .int x2)]) (h : fX2_search q1 x2 μ = some μo) : W p l e (rmd 19) s m args below meth c H locs 0 0 (MQ below (QR ω none μo) args s 0 0 (wA ω)) (F0 m 0 ls []) := by
  have hx := C.1
  have hb := C.2.1
  unfold fX2_search at h
  refine lv_aload_n hx hb dX2_search_0 rfl (lv_at hl 0 rfl) ?_
  refine lv_ldc (v := 1000000) hx hb C.2.2.2.1 (C.2.2.2.2.1 _ (tg wd_1103 rfl)) dX2_search_1 ?_
  obtain ⟨μ1, e2, h⟩ := bd_e h
  refine p_445 C hH hS (jC_183 hW) dX2_search_3 (fun H locs hH hS => ?_)
  have hH := Hd.to e2 hH
  refine lv_aload_n hx hb dX2_search_6 rfl (lv_at hl 0 rfl) ?_
  refine lv_aload_n hx hb dX2_search_7 rfl (lv_at hl 1 rfl) ?_
  refine lv_iload_n hx hb dX2_search_8 rfl (lv_at hl 2 rfl) ?_
  refine lv_iconst (v := 0) hx hb dX2_search_9 (by decide) ?_
  refine lv_iconst (v := 0) hx hb dX2_search_10 (by decide) ?_
  refine lv_iconst (v := 0) hx hb dX2_search_11 (by decide) ?_
  obtain ⟨μ4, e3, h⟩ := b1_e h
  refine cVv (as := [.ref (wB ω + q1), .int x2, .int 0, .int 0, .int 0]) (rest := []) (c_X2_pairFrom_n hW 8 _ _ _ _ _ _ _ hq1 e3) C hl.1 hH hS rfl (jC_183 hW) rfl wd_28 wd_1106 mw_X2_pairFrom wd_1104 rfl (rm_ok (by decide) (by decide)) (Nat.le_of_ble_eq_true rfl) ⟨Nat.zero_le _, Nat.zero_le _⟩ (by decide) dX2_search_12 (fun H locs hH hS => ?_)
  exact h_vret C hr hk hH hS (by cases h; rfl) dX2_search_15
theorem c_X2_search {l : Launch} {ω : WW} {q1 : Nat} {x2 : Int32} (hW : FWC ω) (hq1 : IsS ω q1) {μ : Mem} {μo : Mem} (h : fX2_search q1 x2 μ = some μo) : Con l yX2_search cX2_search 3 none 19 ω [.ref (wB ω + 183), .ref (wB ω + q1), .int x2] μ none μo :=
  con_of (by decide) (Nat.le_of_ble_eq_true rfl) (fun p e s m args below meth c ls C hr hk hl hH hS => wX2_search_e hW hq1 C hr hk hH hS (lv_sub hl [0, 1, 2] rfl) h)
set_option maxHeartbeats 4000000 in
set_option maxRecDepth 100000 in
theorem wX11_paired_b15 (hW : FWC ω) (C : Cx ω p s m args c cX11_paired 2 RX11) (hr : meth.sig.returnType = some .int) (hk : meth.locks = false) {rr : Int32} {μo : Mem} {x1 : Int32} {μ : Mem} {H : Heap} {locs : List Loc} {ls : Array Slot} (hH : Hd ω μ H) (hS : FS ω s H locs) (hl : lv_has ls 2 [(0, .ref (wB ω + 1)), (1, .int x1)]) (h : fX11_paired_b15 x1 μ = some (rr, μo)) : W p l e (rmd 20) s m args below meth c H locs 0 0 (MQ below (QR ω (some (.int rr)) μo) args s 0 0 (wA ω)) (F0 m 15 ls []) := by
  have hx := C.1
  have hb := C.2.1
  unfold fX11_paired_b15 at h
  refine lv_aload_n hx hb dX11_paired_15 rfl (lv_at hl 0 rfl) ?_
  refine g_486 (i := 183) C hH (jC_1 hW) rfl dX11_paired_16 ?_
  refine lv_aload_n hx hb dX11_paired_19 rfl (lv_at hl 0 rfl) ?_
  refine g_477 (i := 24) C hH (jC_1 hW) rfl dX11_paired_20 ?_
  refine lv_aload_n hx hb dX11_paired_23 rfl (lv_at hl 0 rfl) ?_
  refine g_476 (i := 17) C hH (jC_1 hW) rfl dX11_paired_24 ?_
  refine g_265 C hH (jC_17 hW) dX11_paired_27 ?_
  obtain ⟨μ2, e1, h⟩ := b1_e h
  refine cVv (as := [.ref (wB ω + 24), .int (μ.1 17 2)]) (rest := []) (c_X2_search hW (sC_24 hW) e1) C hl.1 hH hS rfl (jC_183 hW) rfl wd_1101 wd_1100 mw_X2_search wd_1099 rfl (rm_ok (by decide) (by decide)) (Nat.le_of_ble_eq_true rfl) ⟨Nat.zero_le _, Nat.zero_le _⟩ (by decide) dX11_paired_30 (fun H locs hH hS => ?_)
  refine lv_iload_n hx hb dX11_paired_33 rfl (lv_at hl 1 rfl) ?_
  refine lv_iconst (v := (-1)) hx hb dX11_paired_34 (by decide) ?_
  refine lv_icmp_ne (tgt := 48) hx hb dX11_paired_35 (by decide) (fun hc => ?_) (fun hc => ?_)
  · have h := ite_f hc h
    refine lv_aload_n hx hb dX11_paired_48 rfl (lv_at hl 0 rfl) ?_
    refine g_486 (i := 183) C hH (jC_1 hW) rfl dX11_paired_49 ?_
    refine g_444 (i := 185) C hH (jC_183 hW) rfl dX11_paired_52 ?_
    refine lv_iload_n hx hb dX11_paired_55 rfl (lv_at hl 1 rfl) ?_
    obtain ⟨b3, h⟩ := gd_e h
    refine h_iald C hH (jC_185 hW).1 (jC_185 hW).2.1 b3 dX11_paired_56 ?_
    exact h_iret C hr hk hH hS rfl (by cases h; rfl) dX11_paired_57
  · have h := ite_t hc h
    refine lv_aload_n hx hb dX11_paired_38 rfl (lv_at hl 0 rfl) ?_
    refine g_486 (i := 183) C hH (jC_1 hW) rfl dX11_paired_39 ?_
    refine g_446 C hH (jC_183 hW) dX11_paired_42 ?_
    refine lv_goto (tgt := 57) hx hb dX11_paired_45 (by decide) ?_
    exact h_iret C hr hk hH hS rfl (by cases h; rfl) dX11_paired_57
set_option maxHeartbeats 4000000 in
set_option maxRecDepth 100000 in
theorem wX11_paired_e (hW : FWC ω) (C : Cx ω p s m args c cX11_paired 2 RX11) (hr : meth.sig.returnType = some .int) (hk : meth.locks = false) {rr : Int32} {μo : Mem} {x1 : Int32} {μ : Mem} {H : Heap} {locs : List Loc} {ls : Array Slot} (hH : Hd ω μ H) (hS : FS ω s H locs) (hl : lv_has ls 2 [(0, .ref (wB ω + 1)), (1, .int x1)]) (h : fX11_paired x1 μ = some (rr, μo)) : W p l e (rmd 20) s m args below meth c H locs 0 0 (MQ below (QR ω (some (.int rr)) μo) args s 0 0 (wA ω)) (F0 m 0 ls []) := by
  have hx := C.1
  have hb := C.2.1
  unfold fX11_paired at h
  refine lv_iload_n hx hb dX11_paired_0 rfl (lv_at hl 1 rfl) ?_
  refine lv_iconst (v := (-1)) hx hb dX11_paired_1 (by decide) ?_
  refine lv_icmp_eq (tgt := 15) hx hb dX11_paired_2 (by decide) (fun hc => ?_) (fun hc => ?_)
  · have h := ite_t hc h
    exact wX11_paired_b15 hW C hr hk hH hS hl h
  · have h := ite_f hc h
    refine lv_aload_n hx hb dX11_paired_5 rfl (lv_at hl 0 rfl) ?_
    refine lv_iload_n hx hb dX11_paired_6 rfl (lv_at hl 1 rfl) ?_
    obtain ⟨r5, e4, h⟩ := b1_e h
    refine cVi (as := [.int x1]) (rest := []) (c_X11_isHouse hW e4) C hl.1 hH hS rfl (jC_1 hW) rfl wd_15 wd_741 mw_X11_isHouse wd_739 rfl (rm_ok (by decide) (by decide)) (Nat.le_of_ble_eq_true rfl) ⟨Nat.zero_le _, Nat.zero_le _⟩ (by decide) dX11_paired_7 (fun H locs hH hS => ?_)
    refine lv_if_ne (tgt := 15) hx hb dX11_paired_10 (by decide) (fun hc => ?_) (fun hc => ?_)
    · have h := ite_f hc h
      exact wX11_paired_b15 hW C hr hk hH hS hl h
    · have h := ite_t hc h
      refine lv_iconst (v := (-1)) hx hb dX11_paired_13 (by decide) ?_
      exact h_iret C hr hk hH hS rfl (by cases h; rfl) dX11_paired_14
theorem c_X11_paired {l : Launch} {ω : WW} {x1 : Int32} (hW : FWC ω) {μ : Mem} {rr : Int32} {μo : Mem} (h : fX11_paired x1 μ = some (rr, μo)) : Con l yX11_paired cX11_paired 2 (some .int) 20 ω [.ref (wB ω + 1), .int x1] μ (some (.int rr)) μo :=
  con_of (by decide) (Nat.le_of_ble_eq_true rfl) (fun p e s m args below meth c ls C hr hk hl hH hS => wX11_paired_e hW C hr hk hH hS (lv_sub hl [0, 1] rfl) h)
end WK3
