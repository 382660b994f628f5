theorem dX11_distanceToJoined_0 : decode cX11_distanceToJoined 0 = .ok (.ldc_w 303, 3) := by decide +kernel
theorem dX11_distanceToJoined_3 : decode cX11_distanceToJoined 3 = .ok (.istore_n 3, 1) := by decide +kernel
theorem dX11_distanceToJoined_4 : decode cX11_distanceToJoined 4 = .ok (.iconst 0, 1) := by decide +kernel
theorem dX11_distanceToJoined_5 : decode cX11_distanceToJoined 5 = .ok (.istore 4, 2) := by decide +kernel
theorem dX11_distanceToJoined_7 : decode cX11_distanceToJoined 7 = .ok (.iload 4, 2) := by decide +kernel
theorem dX11_distanceToJoined_9 : decode cX11_distanceToJoined 9 = .ok (.aload_n 0, 1) := by decide +kernel
theorem dX11_distanceToJoined_10 : decode cX11_distanceToJoined 10 = .ok (.getfield 23, 3) := by decide +kernel
theorem dX11_distanceToJoined_13 : decode cX11_distanceToJoined 13 = .ok (.getfield 158, 3) := by decide +kernel
theorem dX11_distanceToJoined_16 : decode cX11_distanceToJoined 16 = .ok (.if_icmp .ge 34, 3) := by decide +kernel
theorem dX11_distanceToJoined_19 : decode cX11_distanceToJoined 19 = .ok (.iload_n 2, 1) := by decide +kernel
theorem dX11_distanceToJoined_20 : decode cX11_distanceToJoined 20 = .ok (.iload 4, 2) := by decide +kernel
theorem dX11_distanceToJoined_22 : decode cX11_distanceToJoined 22 = .ok (.ishr, 1) := by decide +kernel
theorem dX11_distanceToJoined_23 : decode cX11_distanceToJoined 23 = .ok (.iconst 1, 1) := by decide +kernel
theorem dX11_distanceToJoined_24 : decode cX11_distanceToJoined 24 = .ok (.iand, 1) := by decide +kernel
theorem dX11_distanceToJoined_25 : decode cX11_distanceToJoined 25 = .ok (.iconst 1, 1) := by decide +kernel
theorem dX11_distanceToJoined_26 : decode cX11_distanceToJoined 26 = .ok (.if_icmp .ne 18, 3) := by decide +kernel
theorem dX11_distanceToJoined_29 : decode cX11_distanceToJoined 29 = .ok (.iload_n 3, 1) := by decide +kernel
theorem dX11_distanceToJoined_30 : decode cX11_distanceToJoined 30 = .ok (.aload_n 0, 1) := by decide +kernel
theorem dX11_distanceToJoined_31 : decode cX11_distanceToJoined 31 = .ok (.getfield 23, 3) := by decide +kernel
theorem dX11_distanceToJoined_34 : decode cX11_distanceToJoined 34 = .ok (.iload_n 1, 1) := by decide +kernel
theorem dX11_distanceToJoined_35 : decode cX11_distanceToJoined 35 = .ok (.iload 4, 2) := by decide +kernel
theorem dX11_distanceToJoined_37 : decode cX11_distanceToJoined 37 = .ok (.invokevirtual 284, 3) := by decide +kernel
theorem dX11_distanceToJoined_40 : decode cX11_distanceToJoined 40 = .ok (.invokestatic 208, 3) := by decide +kernel
theorem dX11_distanceToJoined_43 : decode cX11_distanceToJoined 43 = .ok (.istore_n 3, 1) := by decide +kernel
theorem dX11_distanceToJoined_44 : decode cX11_distanceToJoined 44 = .ok (.iinc 4 1, 3) := by decide +kernel
theorem dX11_distanceToJoined_47 : decode cX11_distanceToJoined 47 = .ok (.goto (-40), 3) := by decide +kernel
theorem dX11_distanceToJoined_50 : decode cX11_distanceToJoined 50 = .ok (.iload_n 3, 1) := by decide +kernel
theorem dX11_distanceToJoined_51 : decode cX11_distanceToJoined 51 = .ok (.ireturn, 1) := by decide +kernel
theorem dX11_door_0 : decode cX11_door 0 = .ok (.iload_n 2, 1) := by decide +kernel
theorem dX11_door_1 : decode cX11_door 1 = .ok (.ifCond .eq 7, 3) := by decide +kernel
theorem dX11_door_4 : decode cX11_door 4 = .ok (.iconst 1, 1) := by decide +kernel
theorem dX11_door_5 : decode cX11_door 5 = .ok (.goto 4, 3) := by decide +kernel
theorem dX11_door_8 : decode cX11_door 8 = .ok (.iconst 0, 1) := by decide +kernel
theorem dX11_door_9 : decode cX11_door 9 = .ok (.istore_n 3, 1) := by decide +kernel
theorem dX11_door_10 : decode cX11_door 10 = .ok (.aload_n 0, 1) := by decide +kernel
theorem dX11_door_11 : decode cX11_door 11 = .ok (.iload_n 1, 1) := by decide +kernel
theorem dX11_door_12 : decode cX11_door 12 = .ok (.invokevirtual 130, 3) := by decide +kernel
theorem dX11_door_15 : decode cX11_door 15 = .ok (.ifCond .eq 16, 3) := by decide +kernel
theorem dX11_door_18 : decode cX11_door 18 = .ok (.aload_n 0, 1) := by decide +kernel
theorem dX11_door_19 : decode cX11_door 19 = .ok (.getfield 30, 3) := by decide +kernel
theorem dX11_door_22 : decode cX11_door 22 = .ok (.iload_n 1, 1) := by decide +kernel
theorem dX11_door_23 : decode cX11_door 23 = .ok (.iconst 4, 1) := by decide +kernel
theorem dX11_door_24 : decode cX11_door 24 = .ok (.invokevirtual 134, 3) := by decide +kernel
theorem dX11_door_27 : decode cX11_door 27 = .ok (.iload_n 3, 1) := by decide +kernel
theorem dX11_door_28 : decode cX11_door 28 = .ok (.if_icmp .ne 5, 3) := by decide +kernel
theorem dX11_door_31 : decode cX11_door 31 = .ok (.iconst 0, 1) := by decide +kernel
theorem dX11_door_32 : decode cX11_door 32 = .ok (.ireturn, 1) := by decide +kernel
theorem dX11_door_33 : decode cX11_door 33 = .ok (.aload_n 0, 1) := by decide +kernel
theorem dX11_door_34 : decode cX11_door 34 = .ok (.getfield 48, 3) := by decide +kernel
theorem dX11_door_37 : decode cX11_door 37 = .ok (.aload_n 0, 1) := by decide +kernel
theorem dX11_door_38 : decode cX11_door 38 = .ok (.getfield 30, 3) := by decide +kernel
theorem dX11_door_41 : decode cX11_door 41 = .ok (.invokevirtual 197, 3) := by decide +kernel
theorem dX11_door_44 : decode cX11_door 44 = .ok (.aload_n 0, 1) := by decide +kernel
theorem dX11_door_45 : decode cX11_door 45 = .ok (.getfield 30, 3) := by decide +kernel
theorem dX11_door_48 : decode cX11_door 48 = .ok (.iload_n 1, 1) := by decide +kernel
theorem dX11_door_49 : decode cX11_door 49 = .ok (.iconst 4, 1) := by decide +kernel
theorem dX11_door_50 : decode cX11_door 50 = .ok (.iload_n 3, 1) := by decide +kernel
theorem dX11_door_51 : decode cX11_door 51 = .ok (.invokevirtual 204, 3) := by decide +kernel
theorem dX11_door_54 : decode cX11_door 54 = .ok (.iconst 1, 1) := by decide +kernel
theorem dX11_door_55 : decode cX11_door 55 = .ok (.ireturn, 1) := by decide +kernel
theorem dX11_draughty_0 : decode cX11_draughty 0 = .ok (.iload_n 1, 1) := by decide +kernel
theorem dX11_draughty_1 : decode cX11_draughty 1 = .ok (.ifCond .eq 10, 3) := by decide +kernel
theorem dX11_draughty_4 : decode cX11_draughty 4 = .ok (.iload_n 1, 1) := by decide +kernel
theorem dX11_draughty_5 : decode cX11_draughty 5 = .ok (.iconst 1, 1) := by decide +kernel
theorem dX11_draughty_6 : decode cX11_draughty 6 = .ok (.if_icmp .eq 5, 3) := by decide +kernel
theorem dX11_draughty_9 : decode cX11_draughty 9 = .ok (.iconst (-1), 1) := by decide +kernel
theorem dX11_draughty_10 : decode cX11_draughty 10 = .ok (.ireturn, 1) := by decide +kernel
theorem dX11_draughty_11 : decode cX11_draughty 11 = .ok (.bipush (-2), 2) := by decide +kernel
theorem dX11_draughty_13 : decode cX11_draughty 13 = .ok (.istore_n 2, 1) := by decide +kernel
theorem dX11_draughty_14 : decode cX11_draughty 14 = .ok (.bipush (-2), 2) := by decide +kernel
theorem dX11_draughty_16 : decode cX11_draughty 16 = .ok (.istore_n 3, 1) := by decide +kernel
theorem dX11_draughty_17 : decode cX11_draughty 17 = .ok (.iconst 0, 1) := by decide +kernel
theorem dX11_draughty_18 : decode cX11_draughty 18 = .ok (.istore 4, 2) := by decide +kernel
theorem dX11_draughty_20 : decode cX11_draughty 20 = .ok (.iload 4, 2) := by decide +kernel
theorem dX11_draughty_22 : decode cX11_draughty 22 = .ok (.aload_n 0, 1) := by decide +kernel
theorem dX11_draughty_23 : decode cX11_draughty 23 = .ok (.getfield 23, 3) := by decide +kernel
theorem dX11_draughty_26 : decode cX11_draughty 26 = .ok (.getfield 158, 3) := by decide +kernel
theorem dX11_draughty_29 : decode cX11_draughty 29 = .ok (.if_icmp .ge 50, 3) := by decide +kernel
theorem dX11_draughty_32 : decode cX11_draughty 32 = .ok (.aload_n 0, 1) := by decide +kernel
theorem dX11_draughty_33 : decode cX11_draughty 33 = .ok (.getfield 23, 3) := by decide +kernel
theorem dX11_draughty_36 : decode cX11_draughty 36 = .ok (.aload_n 0, 1) := by decide +kernel
theorem dX11_draughty_37 : decode cX11_draughty 37 = .ok (.getfield 30, 3) := by decide +kernel
theorem dX11_draughty_40 : decode cX11_draughty 40 = .ok (.iload 4, 2) := by decide +kernel
theorem dX11_draughty_42 : decode cX11_draughty 42 = .ok (.invokevirtual 138, 3) := by decide +kernel
theorem dX11_draughty_45 : decode cX11_draughty 45 = .ok (.aload_n 0, 1) := by decide +kernel
theorem dX11_draughty_46 : decode cX11_draughty 46 = .ok (.getfield 23, 3) := by decide +kernel
theorem dX11_draughty_49 : decode cX11_draughty 49 = .ok (.aload_n 0, 1) := by decide +kernel
theorem dX11_draughty_50 : decode cX11_draughty 50 = .ok (.getfield 30, 3) := by decide +kernel
theorem dX11_draughty_53 : decode cX11_draughty 53 = .ok (.iload 4, 2) := by decide +kernel
theorem dX11_draughty_55 : decode cX11_draughty 55 = .ok (.invokevirtual 272, 3) := by decide +kernel
theorem dX11_draughty_58 : decode cX11_draughty 58 = .ok (.imul, 1) := by decide +kernel
theorem dX11_draughty_59 : decode cX11_draughty 59 = .ok (.istore 5, 2) := by decide +kernel
theorem dX11_draughty_61 : decode cX11_draughty 61 = .ok (.iload 5, 2) := by decide +kernel
theorem dX11_draughty_63 : decode cX11_draughty 63 = .ok (.iload_n 3, 1) := by decide +kernel
theorem dX11_draughty_64 : decode cX11_draughty 64 = .ok (.if_icmp .le 9, 3) := by decide +kernel
theorem dX11_draughty_67 : decode cX11_draughty 67 = .ok (.iload 5, 2) := by decide +kernel
theorem dX11_draughty_69 : decode cX11_draughty 69 = .ok (.istore_n 3, 1) := by decide +kernel
theorem dX11_draughty_70 : decode cX11_draughty 70 = .ok (.iload 4, 2) := by decide +kernel
theorem dX11_draughty_72 : decode cX11_draughty 72 = .ok (.istore_n 2, 1) := by decide +kernel
theorem dX11_draughty_73 : decode cX11_draughty 73 = .ok (.iinc 4 1, 3) := by decide +kernel
theorem dX11_draughty_76 : decode cX11_draughty 76 = .ok (.goto (-56), 3) := by decide +kernel
theorem dX11_draughty_79 : decode cX11_draughty 79 = .ok (.iload_n 1, 1) := by decide +kernel
theorem dX11_draughty_80 : decode cX11_draughty 80 = .ok (.ifCond .ne 7, 3) := by decide +kernel
theorem dX11_draughty_83 : decode cX11_draughty 83 = .ok (.iload_n 2, 1) := by decide +kernel
theorem dX11_draughty_84 : decode cX11_draughty 84 = .ok (.goto 4, 3) := by decide +kernel
theorem dX11_draughty_87 : decode cX11_draughty 87 = .ok (.iload_n 3, 1) := by decide +kernel
theorem dX11_draughty_88 : decode cX11_draughty 88 = .ok (.ireturn, 1) := by decide +kernel
theorem dX11_enough_0 : decode cX11_enough 0 = .ok (.iconst 0, 1) := by decide +kernel
theorem dX11_enough_1 : decode cX11_enough 1 = .ok (.istore_n 1, 1) := by decide +kernel
theorem dX11_enough_2 : decode cX11_enough 2 = .ok (.iconst 0, 1) := by decide +kernel
theorem dX11_enough_3 : decode cX11_enough 3 = .ok (.istore_n 2, 1) := by decide +kernel
theorem dX11_enough_4 : decode cX11_enough 4 = .ok (.iload_n 2, 1) := by decide +kernel
theorem dX11_enough_5 : decode cX11_enough 5 = .ok (.aload_n 0, 1) := by decide +kernel
theorem dX11_enough_6 : decode cX11_enough 6 = .ok (.getfield 23, 3) := by decide +kernel
theorem dX11_enough_9 : decode cX11_enough 9 = .ok (.getfield 158, 3) := by decide +kernel
theorem dX11_enough_12 : decode cX11_enough 12 = .ok (.if_icmp .ge 31, 3) := by decide +kernel
theorem dX11_enough_15 : decode cX11_enough 15 = .ok (.aload_n 0, 1) := by decide +kernel
theorem dX11_enough_16 : decode cX11_enough 16 = .ok (.aload_n 0, 1) := by decide +kernel
theorem dX11_enough_17 : decode cX11_enough 17 = .ok (.getfield 30, 3) := by decide +kernel
theorem dX11_enough_20 : decode cX11_enough 20 = .ok (.iload_n 2, 1) := by decide +kernel
theorem dX11_enough_21 : decode cX11_enough 21 = .ok (.invokevirtual 248, 3) := by decide +kernel
theorem dX11_enough_24 : decode cX11_enough 24 = .ok (.istore_n 3, 1) := by decide +kernel
theorem dX11_enough_25 : decode cX11_enough 25 = .ok (.iload_n 3, 1) := by decide +kernel
theorem dX11_enough_26 : decode cX11_enough 26 = .ok (.iconst (-1), 1) := by decide +kernel
theorem dX11_enough_27 : decode cX11_enough 27 = .ok (.if_icmp .ne 6, 3) := by decide +kernel
theorem dX11_enough_30 : decode cX11_enough 30 = .ok (.bipush (-2), 2) := by decide +kernel
theorem dX11_enough_32 : decode cX11_enough 32 = .ok (.ireturn, 1) := by decide +kernel
theorem dX11_enough_33 : decode cX11_enough 33 = .ok (.iload_n 1, 1) := by decide +kernel
theorem dX11_enough_34 : decode cX11_enough 34 = .ok (.iload_n 3, 1) := by decide +kernel
theorem dX11_enough_35 : decode cX11_enough 35 = .ok (.iadd, 1) := by decide +kernel
theorem dX11_enough_36 : decode cX11_enough 36 = .ok (.istore_n 1, 1) := by decide +kernel
theorem dX11_enough_37 : decode cX11_enough 37 = .ok (.iinc 2 1, 3) := by decide +kernel
theorem dX11_enough_40 : decode cX11_enough 40 = .ok (.goto (-36), 3) := by decide +kernel
theorem dX11_enough_43 : decode cX11_enough 43 = .ok (.iload_n 1, 1) := by decide +kernel
theorem dX11_enough_44 : decode cX11_enough 44 = .ok (.ireturn, 1) := by decide +kernel
theorem dX11_far_0 : decode cX11_far 0 = .ok (.aload_n 0, 1) := by decide +kernel
theorem dX11_far_1 : decode cX11_far 1 = .ok (.iload_n 1, 1) := by decide +kernel
theorem dX11_far_2 : decode cX11_far 2 = .ok (.invokevirtual 130, 3) := by decide +kernel
theorem dX11_far_5 : decode cX11_far 5 = .ok (.ifCond .eq 23, 3) := by decide +kernel
theorem dX11_far_8 : decode cX11_far 8 = .ok (.aload_n 0, 1) := by decide +kernel
theorem dX11_far_9 : decode cX11_far 9 = .ok (.iload_n 2, 1) := by decide +kernel
theorem dX11_far_10 : decode cX11_far 10 = .ok (.invokevirtual 130, 3) := by decide +kernel
theorem dX11_far_13 : decode cX11_far 13 = .ok (.ifCond .eq 15, 3) := by decide +kernel
theorem dX11_far_16 : decode cX11_far 16 = .ok (.aload_n 0, 1) := by decide +kernel
theorem dX11_far_17 : decode cX11_far 17 = .ok (.getfield 23, 3) := by decide +kernel
theorem dX11_far_20 : decode cX11_far 20 = .ok (.iload_n 1, 1) := by decide +kernel
theorem dX11_far_21 : decode cX11_far 21 = .ok (.iload_n 2, 1) := by decide +kernel
theorem dX11_far_22 : decode cX11_far 22 = .ok (.invokevirtual 284, 3) := by decide +kernel
theorem dX11_far_25 : decode cX11_far 25 = .ok (.goto 4, 3) := by decide +kernel
theorem dX11_far_28 : decode cX11_far 28 = .ok (.iconst (-1), 1) := by decide +kernel
theorem dX11_far_29 : decode cX11_far 29 = .ok (.ireturn, 1) := by decide +kernel
theorem dX11_putWord_0 : decode cX11_putWord 0 = .ok (.bipush 24, 2) := by decide +kernel
theorem dX11_putWord_2 : decode cX11_putWord 2 = .ok (.istore_n 2, 1) := by decide +kernel
theorem dX11_putWord_3 : decode cX11_putWord 3 = .ok (.iload_n 2, 1) := by decide +kernel
theorem dX11_putWord_4 : decode cX11_putWord 4 = .ok (.ifCond .lt 42, 3) := by decide +kernel
theorem dX11_putWord_7 : decode cX11_putWord 7 = .ok (.aload_n 0, 1) := by decide +kernel
theorem dX11_putWord_8 : decode cX11_putWord 8 = .ok (.getfield 99, 3) := by decide +kernel
theorem dX11_putWord_11 : decode cX11_putWord 11 = .ok (.sipush 2000, 3) := by decide +kernel
theorem dX11_putWord_14 : decode cX11_putWord 14 = .ok (.if_icmp .ge 32, 3) := by decide +kernel
theorem dX11_putWord_17 : decode cX11_putWord 17 = .ok (.aload_n 0, 1) := by decide +kernel
theorem dX11_putWord_18 : decode cX11_putWord 18 = .ok (.getfield 9, 3) := by decide +kernel
theorem dX11_putWord_21 : decode cX11_putWord 21 = .ok (.aload_n 0, 1) := by decide +kernel
theorem dX11_putWord_22 : decode cX11_putWord 22 = .ok (.getfield 99, 3) := by decide +kernel
theorem dX11_putWord_25 : decode cX11_putWord 25 = .ok (.iload_n 1, 1) := by decide +kernel
theorem dX11_putWord_26 : decode cX11_putWord 26 = .ok (.iload_n 2, 1) := by decide +kernel
theorem dX11_putWord_27 : decode cX11_putWord 27 = .ok (.iushr, 1) := by decide +kernel
theorem dX11_putWord_28 : decode cX11_putWord 28 = .ok (.i2b, 1) := by decide +kernel
theorem dX11_putWord_29 : decode cX11_putWord 29 = .ok (.bastore, 1) := by decide +kernel
theorem dX11_putWord_30 : decode cX11_putWord 30 = .ok (.aload_n 0, 1) := by decide +kernel
theorem dX11_putWord_31 : decode cX11_putWord 31 = .ok (.dup, 1) := by decide +kernel
theorem dX11_putWord_32 : decode cX11_putWord 32 = .ok (.getfield 99, 3) := by decide +kernel
theorem dX11_putWord_35 : decode cX11_putWord 35 = .ok (.iconst 1, 1) := by decide +kernel
theorem dX11_putWord_36 : decode cX11_putWord 36 = .ok (.iadd, 1) := by decide +kernel
theorem dX11_putWord_37 : decode cX11_putWord 37 = .ok (.putfield 99, 3) := by decide +kernel
theorem dX11_putWord_40 : decode cX11_putWord 40 = .ok (.iinc 2 (-8), 3) := by decide +kernel
theorem dX11_putWord_43 : decode cX11_putWord 43 = .ok (.goto (-40), 3) := by decide +kernel
theorem dX11_putWord_46 : decode cX11_putWord 46 = .ok (.return_, 1) := by decide +kernel
theorem dX11_feed_0 : decode cX11_feed 0 = .ok (.aload_n 0, 1) := by decide +kernel
theorem dX11_feed_1 : decode cX11_feed 1 = .ok (.getfield 99, 3) := by decide +kernel
theorem dX11_feed_4 : decode cX11_feed 4 = .ok (.bipush 20, 2) := by decide +kernel
theorem dX11_feed_6 : decode cX11_feed 6 = .ok (.iadd, 1) := by decide +kernel
theorem dX11_feed_7 : decode cX11_feed 7 = .ok (.sipush 2000, 3) := by decide +kernel
theorem dX11_feed_10 : decode cX11_feed 10 = .ok (.if_icmp .le 5, 3) := by decide +kernel
theorem dX11_feed_13 : decode cX11_feed 13 = .ok (.iconst (-1), 1) := by decide +kernel
theorem dX11_feed_14 : decode cX11_feed 14 = .ok (.ireturn, 1) := by decide +kernel
theorem dX11_feed_15 : decode cX11_feed 15 = .ok (.aload_n 0, 1) := by decide +kernel
theorem dX11_feed_16 : decode cX11_feed 16 = .ok (.iload_n 1, 1) := by decide +kernel
theorem dX11_feed_17 : decode cX11_feed 17 = .ok (.invokevirtual 105, 3) := by decide +kernel
theorem dX11_feed_20 : decode cX11_feed 20 = .ok (.aload_n 0, 1) := by decide +kernel
theorem dX11_feed_21 : decode cX11_feed 21 = .ok (.iload_n 2, 1) := by decide +kernel
theorem dX11_feed_22 : decode cX11_feed 22 = .ok (.invokevirtual 105, 3) := by decide +kernel
theorem dX11_feed_25 : decode cX11_feed 25 = .ok (.aload_n 0, 1) := by decide +kernel
theorem dX11_feed_26 : decode cX11_feed 26 = .ok (.iload_n 3, 1) := by decide +kernel
theorem dX11_feed_27 : decode cX11_feed 27 = .ok (.invokevirtual 105, 3) := by decide +kernel
theorem dX11_feed_30 : decode cX11_feed 30 = .ok (.aload_n 0, 1) := by decide +kernel
theorem dX11_feed_31 : decode cX11_feed 31 = .ok (.iload 4, 2) := by decide +kernel
theorem dX11_feed_33 : decode cX11_feed 33 = .ok (.invokevirtual 105, 3) := by decide +kernel
theorem dX11_feed_36 : decode cX11_feed 36 = .ok (.aload_n 0, 1) := by decide +kernel
theorem dX11_feed_37 : decode cX11_feed 37 = .ok (.iload 5, 2) := by decide +kernel
theorem dX11_feed_39 : decode cX11_feed 39 = .ok (.invokevirtual 105, 3) := by decide +kernel
theorem dX11_feed_42 : decode cX11_feed 42 = .ok (.aload_n 0, 1) := by decide +kernel
theorem dX11_feed_43 : decode cX11_feed 43 = .ok (.getfield 99, 3) := by decide +kernel
theorem dX11_feed_46 : decode cX11_feed 46 = .ok (.ireturn, 1) := by decide +kernel
theorem dX11_lossWith_0 : decode cX11_lossWith 0 = .ok (.aload_n 0, 1) := by decide +kernel
theorem dX11_lossWith_1 : decode cX11_lossWith 1 = .ok (.getfield 39, 3) := by decide +kernel
theorem dX11_lossWith_4 : decode cX11_lossWith 4 = .ok (.aload_n 0, 1) := by decide +kernel
theorem dX11_lossWith_5 : decode cX11_lossWith 5 = .ok (.getfield 30, 3) := by decide +kernel
theorem dX11_lossWith_8 : decode cX11_lossWith 8 = .ok (.invokevirtual 233, 3) := by decide +kernel
theorem dX11_lossWith_11 : decode cX11_lossWith 11 = .ok (.aload_n 0, 1) := by decide +kernel
theorem dX11_lossWith_12 : decode cX11_lossWith 12 = .ok (.getfield 23, 3) := by decide +kernel
theorem dX11_lossWith_15 : decode cX11_lossWith 15 = .ok (.aload_n 0, 1) := by decide +kernel
theorem dX11_lossWith_16 : decode cX11_lossWith 16 = .ok (.getfield 39, 3) := by decide +kernel
theorem dX11_lossWith_19 : decode cX11_lossWith 19 = .ok (.iload_n 1, 1) := by decide +kernel
theorem dX11_lossWith_20 : decode cX11_lossWith 20 = .ok (.iload_n 2, 1) := by decide +kernel
theorem dX11_lossWith_21 : decode cX11_lossWith 21 = .ok (.invokevirtual 200, 3) := by decide +kernel
theorem dX11_lossWith_24 : decode cX11_lossWith 24 = .ok (.aload_n 0, 1) := by decide +kernel
theorem dX11_lossWith_25 : decode cX11_lossWith 25 = .ok (.getfield 23, 3) := by decide +kernel
theorem dX11_lossWith_28 : decode cX11_lossWith 28 = .ok (.aload_n 0, 1) := by decide +kernel
theorem dX11_lossWith_29 : decode cX11_lossWith 29 = .ok (.getfield 39, 3) := by decide +kernel
theorem dX11_lossWith_32 : decode cX11_lossWith 32 = .ok (.iload_n 1, 1) := by decide +kernel
theorem dX11_lossWith_33 : decode cX11_lossWith 33 = .ok (.invokevirtual 145, 3) := by decide +kernel
theorem dX11_lossWith_36 : decode cX11_lossWith 36 = .ok (.ireturn, 1) := by decide +kernel
theorem dX11_savedByOne_0 : decode cX11_savedByOne 0 = .ok (.aload_n 0, 1) := by decide +kernel
theorem dX11_savedByOne_1 : decode cX11_savedByOne 1 = .ok (.getfield 23, 3) := by decide +kernel
theorem dX11_savedByOne_4 : decode cX11_savedByOne 4 = .ok (.aload_n 0, 1) := by decide +kernel
theorem dX11_savedByOne_5 : decode cX11_savedByOne 5 = .ok (.getfield 30, 3) := by decide +kernel
theorem dX11_savedByOne_8 : decode cX11_savedByOne 8 = .ok (.iload_n 1, 1) := by decide +kernel
theorem dX11_savedByOne_9 : decode cX11_savedByOne 9 = .ok (.invokevirtual 145, 3) := by decide +kernel
theorem dX11_savedByOne_12 : decode cX11_savedByOne 12 = .ok (.aload_n 0, 1) := by decide +kernel
theorem dX11_savedByOne_13 : decode cX11_savedByOne 13 = .ok (.iload_n 1, 1) := by decide +kernel
theorem dX11_savedByOne_14 : decode cX11_savedByOne 14 = .ok (.iconst 1, 1) := by decide +kernel
theorem dX11_savedByOne_15 : decode cX11_savedByOne 15 = .ok (.invokevirtual 230, 3) := by decide +kernel
theorem dX11_savedByOne_18 : decode cX11_savedByOne 18 = .ok (.isub, 1) := by decide +kernel
theorem dX11_savedByOne_19 : decode cX11_savedByOne 19 = .ok (.ireturn, 1) := by decide +kernel
theorem dX11_first_0 : decode cX11_first 0 = .ok (.bipush (-2), 2) := by decide +kernel
theorem dX11_first_2 : decode cX11_first 2 = .ok (.istore_n 1, 1) := by decide +kernel
theorem dX11_first_3 : decode cX11_first 3 = .ok (.ldc_w 271, 3) := by decide +kernel
theorem dX11_first_6 : decode cX11_first 6 = .ok (.istore_n 2, 1) := by decide +kernel
theorem dX11_first_7 : decode cX11_first 7 = .ok (.iconst 0, 1) := by decide +kernel
theorem dX11_first_8 : decode cX11_first 8 = .ok (.istore_n 3, 1) := by decide +kernel
theorem dX11_first_9 : decode cX11_first 9 = .ok (.iload_n 3, 1) := by decide +kernel
theorem dX11_first_10 : decode cX11_first 10 = .ok (.aload_n 0, 1) := by decide +kernel
theorem dX11_first_11 : decode cX11_first 11 = .ok (.getfield 23, 3) := by decide +kernel
theorem dX11_first_14 : decode cX11_first 14 = .ok (.getfield 158, 3) := by decide +kernel
theorem dX11_first_17 : decode cX11_first 17 = .ok (.if_icmp .ge 27, 3) := by decide +kernel
theorem dX11_first_20 : decode cX11_first 20 = .ok (.aload_n 0, 1) := by decide +kernel
theorem dX11_first_21 : decode cX11_first 21 = .ok (.iload_n 3, 1) := by decide +kernel
theorem dX11_first_22 : decode cX11_first 22 = .ok (.invokevirtual 268, 3) := by decide +kernel
theorem dX11_first_25 : decode cX11_first 25 = .ok (.istore 4, 2) := by decide +kernel
theorem dX11_first_27 : decode cX11_first 27 = .ok (.iload 4, 2) := by decide +kernel
theorem dX11_first_29 : decode cX11_first 29 = .ok (.iload_n 2, 1) := by decide +kernel
theorem dX11_first_30 : decode cX11_first 30 = .ok (.if_icmp .le 8, 3) := by decide +kernel
theorem dX11_first_33 : decode cX11_first 33 = .ok (.iload 4, 2) := by decide +kernel
theorem dX11_first_35 : decode cX11_first 35 = .ok (.istore_n 2, 1) := by decide +kernel
theorem dX11_first_36 : decode cX11_first 36 = .ok (.iload_n 3, 1) := by decide +kernel
theorem dX11_first_37 : decode cX11_first 37 = .ok (.istore_n 1, 1) := by decide +kernel
theorem dX11_first_38 : decode cX11_first 38 = .ok (.iinc 3 1, 3) := by decide +kernel
theorem dX11_first_41 : decode cX11_first 41 = .ok (.goto (-32), 3) := by decide +kernel
theorem dX11_first_44 : decode cX11_first 44 = .ok (.iload_n 1, 1) := by decide +kernel
theorem dX11_first_45 : decode cX11_first 45 = .ok (.ireturn, 1) := by decide +kernel
theorem dX11_forget_0 : decode cX11_forget 0 = .ok (.aload_n 0, 1) := by decide +kernel
theorem dX11_forget_1 : decode cX11_forget 1 = .ok (.getfield 91, 3) := by decide +kernel
theorem dX11_forget_4 : decode cX11_forget 4 = .ok (.getfield 127, 3) := by decide +kernel
theorem dX11_forget_7 : decode cX11_forget 7 = .ok (.istore_n 1, 1) := by decide +kernel
theorem dX11_forget_8 : decode cX11_forget 8 = .ok (.aload_n 0, 1) := by decide +kernel
theorem dX11_forget_9 : decode cX11_forget 9 = .ok (.getfield 91, 3) := by decide +kernel
theorem dX11_forget_12 : decode cX11_forget 12 = .ok (.iconst 0, 1) := by decide +kernel
theorem dX11_forget_13 : decode cX11_forget 13 = .ok (.putfield 127, 3) := by decide +kernel
theorem dX11_forget_16 : decode cX11_forget 16 = .ok (.iload_n 1, 1) := by decide +kernel
theorem dX11_forget_17 : decode cX11_forget 17 = .ok (.ireturn, 1) := by decide +kernel
theorem dX11_gone_0 : decode cX11_gone 0 = .ok (.aload_n 0, 1) := by decide +kernel
theorem dX11_gone_1 : decode cX11_gone 1 = .ok (.iload_n 1, 1) := by decide +kernel
theorem dX11_gone_2 : decode cX11_gone 2 = .ok (.invokevirtual 130, 3) := by decide +kernel
theorem dX11_gone_5 : decode cX11_gone 5 = .ok (.ifCond .eq 12, 3) := by decide +kernel
theorem dX11_gone_8 : decode cX11_gone 8 = .ok (.aload_n 0, 1) := by decide +kernel
theorem dX11_gone_9 : decode cX11_gone 9 = .ok (.iload_n 1, 1) := by decide +kernel
theorem dX11_gone_10 : decode cX11_gone 10 = .ok (.iconst 3, 1) := by decide +kernel
theorem dX11_gone_11 : decode cX11_gone 11 = .ok (.invokevirtual 261, 3) := by decide +kernel
theorem dX11_gone_14 : decode cX11_gone 14 = .ok (.goto 4, 3) := by decide +kernel
theorem dX11_gone_17 : decode cX11_gone 17 = .ok (.iconst (-1), 1) := by decide +kernel
theorem dX11_gone_18 : decode cX11_gone 18 = .ok (.ireturn, 1) := by decide +kernel
theorem dX11_hold_0 : decode cX11_hold 0 = .ok (.aload_n 0, 1) := by decide +kernel
theorem dX11_hold_1 : decode cX11_hold 1 = .ok (.getfield 48, 3) := by decide +kernel
theorem dX11_hold_4 : decode cX11_hold 4 = .ok (.iload_n 1, 1) := by decide +kernel
theorem dX11_hold_5 : decode cX11_hold 5 = .ok (.aload_n 0, 1) := by decide +kernel
theorem dX11_hold_6 : decode cX11_hold 6 = .ok (.getfield 30, 3) := by decide +kernel
theorem dX11_hold_9 : decode cX11_hold 9 = .ok (.invokevirtual 223, 3) := by decide +kernel
theorem dX11_hold_12 : decode cX11_hold 12 = .ok (.ireturn, 1) := by decide +kernel
theorem dX3_mends_0 : decode cX3_mends 0 = .ok (.iconst 0, 1) := by decide +kernel
theorem dX3_mends_1 : decode cX3_mends 1 = .ok (.bipush 99, 2) := by decide +kernel
theorem dX3_mends_3 : decode cX3_mends 3 = .ok (.aload_n 0, 1) := by decide +kernel
theorem dX3_mends_4 : decode cX3_mends 4 = .ok (.getfield 18, 3) := by decide +kernel
theorem dX3_mends_7 : decode cX3_mends 7 = .ok (.iconst 3, 1) := by decide +kernel
theorem dX3_mends_8 : decode cX3_mends 8 = .ok (.aload_n 1, 1) := by decide +kernel
theorem dX3_mends_9 : decode cX3_mends 9 = .ok (.iload_n 2, 1) := by decide +kernel
theorem dX3_mends_10 : decode cX3_mends 10 = .ok (.invokevirtual 84, 3) := by decide +kernel
theorem dX3_mends_13 : decode cX3_mends 13 = .ok (.invokestatic 88, 3) := by decide +kernel
theorem dX3_mends_16 : decode cX3_mends 16 = .ok (.invokestatic 91, 3) := by decide +kernel
theorem dX3_mends_19 : decode cX3_mends 19 = .ok (.ireturn, 1) := by decide +kernel
theorem dX11_house_0 : decode cX11_house 0 = .ok (.aload_n 0, 1) := by decide +kernel
theorem dX11_house_1 : decode cX11_house 1 = .ok (.iload_n 1, 1) := by decide +kernel
theorem dX11_house_2 : decode cX11_house 2 = .ok (.invokevirtual 130, 3) := by decide +kernel
theorem dX11_house_5 : decode cX11_house 5 = .ok (.ifCond .eq 13, 3) := by decide +kernel
theorem dX11_house_8 : decode cX11_house 8 = .ok (.iload_n 2, 1) := by decide +kernel
theorem dX11_house_9 : decode cX11_house 9 = .ok (.ifCond .lt 9, 3) := by decide +kernel
theorem dX11_house_12 : decode cX11_house 12 = .ok (.iload_n 2, 1) := by decide +kernel
theorem dX11_house_13 : decode cX11_house 13 = .ok (.bipush 12, 2) := by decide +kernel
theorem dX11_house_15 : decode cX11_house 15 = .ok (.if_icmp .le 5, 3) := by decide +kernel
theorem dX11_house_18 : decode cX11_house 18 = .ok (.iconst (-1), 1) := by decide +kernel
theorem dX11_house_19 : decode cX11_house 19 = .ok (.ireturn, 1) := by decide +kernel
theorem dX11_house_20 : decode cX11_house 20 = .ok (.iload_n 2, 1) := by decide +kernel
theorem dX11_house_21 : decode cX11_house 21 = .ok (.bipush 7, 2) := by decide +kernel
theorem dX11_house_23 : decode cX11_house 23 = .ok (.if_icmp .ge 13, 3) := by decide +kernel
theorem dX11_house_26 : decode cX11_house 26 = .ok (.aload_n 0, 1) := by decide +kernel
theorem dX11_house_27 : decode cX11_house 27 = .ok (.getfield 30, 3) := by decide +kernel
theorem dX11_house_30 : decode cX11_house 30 = .ok (.iload_n 1, 1) := by decide +kernel
theorem dX11_house_31 : decode cX11_house 31 = .ok (.iload_n 2, 1) := by decide +kernel
theorem dX11_house_32 : decode cX11_house 32 = .ok (.invokevirtual 134, 3) := by decide +kernel
theorem dX11_house_35 : decode cX11_house 35 = .ok (.ireturn, 1) := by decide +kernel
theorem dX11_house_36 : decode cX11_house 36 = .ok (.iload_n 2, 1) := by decide +kernel
theorem dX11_house_37 : decode cX11_house 37 = .ok (.tableswitch 96 7 11 #[35, 48, 61, 74, 87], 35) := by decide +kernel
theorem dX11_house_72 : decode cX11_house 72 = .ok (.aload_n 0, 1) := by decide +kernel
theorem dX11_house_73 : decode cX11_house 73 = .ok (.getfield 23, 3) := by decide +kernel
theorem dX11_house_76 : decode cX11_house 76 = .ok (.aload_n 0, 1) := by decide +kernel
theorem dX11_house_77 : decode cX11_house 77 = .ok (.getfield 30, 3) := by decide +kernel
theorem dX11_house_80 : decode cX11_house 80 = .ok (.iload_n 1, 1) := by decide +kernel
theorem dX11_house_81 : decode cX11_house 81 = .ok (.invokevirtual 138, 3) := by decide +kernel
theorem dX11_house_84 : decode cX11_house 84 = .ok (.ireturn, 1) := by decide +kernel
theorem dX11_house_85 : decode cX11_house 85 = .ok (.aload_n 0, 1) := by decide +kernel
theorem dX11_house_86 : decode cX11_house 86 = .ok (.getfield 23, 3) := by decide +kernel
theorem dX11_house_89 : decode cX11_house 89 = .ok (.aload_n 0, 1) := by decide +kernel
theorem dX11_house_90 : decode cX11_house 90 = .ok (.getfield 30, 3) := by decide +kernel
theorem dX11_house_93 : decode cX11_house 93 = .ok (.iload_n 1, 1) := by decide +kernel
theorem dX11_house_94 : decode cX11_house 94 = .ok (.invokevirtual 142, 3) := by decide +kernel
theorem dX11_house_97 : decode cX11_house 97 = .ok (.ireturn, 1) := by decide +kernel
theorem dX11_house_98 : decode cX11_house 98 = .ok (.aload_n 0, 1) := by decide +kernel
theorem dX11_house_99 : decode cX11_house 99 = .ok (.getfield 23, 3) := by decide +kernel
theorem dX11_house_102 : decode cX11_house 102 = .ok (.aload_n 0, 1) := by decide +kernel
theorem dX11_house_103 : decode cX11_house 103 = .ok (.getfield 30, 3) := by decide +kernel
theorem dX11_house_106 : decode cX11_house 106 = .ok (.iload_n 1, 1) := by decide +kernel
theorem dX11_house_107 : decode cX11_house 107 = .ok (.invokevirtual 145, 3) := by decide +kernel
theorem dX11_house_110 : decode cX11_house 110 = .ok (.ireturn, 1) := by decide +kernel
theorem dX11_house_111 : decode cX11_house 111 = .ok (.aload_n 0, 1) := by decide +kernel
theorem dX11_house_112 : decode cX11_house 112 = .ok (.getfield 23, 3) := by decide +kernel
theorem dX11_house_115 : decode cX11_house 115 = .ok (.aload_n 0, 1) := by decide +kernel
theorem dX11_house_116 : decode cX11_house 116 = .ok (.getfield 30, 3) := by decide +kernel
theorem dX11_house_119 : decode cX11_house 119 = .ok (.iload_n 1, 1) := by decide +kernel
theorem dX11_house_120 : decode cX11_house 120 = .ok (.invokevirtual 148, 3) := by decide +kernel
theorem dX11_house_123 : decode cX11_house 123 = .ok (.ireturn, 1) := by decide +kernel
theorem dX11_house_124 : decode cX11_house 124 = .ok (.aload_n 0, 1) := by decide +kernel
theorem dX11_house_125 : decode cX11_house 125 = .ok (.getfield 23, 3) := by decide +kernel
theorem dX11_house_128 : decode cX11_house 128 = .ok (.iload_n 1, 1) := by decide +kernel
theorem dX11_house_129 : decode cX11_house 129 = .ok (.invokevirtual 151, 3) := by decide +kernel
theorem dX11_house_132 : decode cX11_house 132 = .ok (.ireturn, 1) := by decide +kernel
theorem dX11_house_133 : decode cX11_house 133 = .ok (.aload_n 0, 1) := by decide +kernel
theorem dX11_house_134 : decode cX11_house 134 = .ok (.getfield 23, 3) := by decide +kernel
theorem dX11_house_137 : decode cX11_house 137 = .ok (.iload_n 1, 1) := by decide +kernel
theorem dX11_house_138 : decode cX11_house 138 = .ok (.invokevirtual 155, 3) := by decide +kernel
theorem dX11_house_141 : decode cX11_house 141 = .ok (.ireturn, 1) := by decide +kernel
theorem dX6_fewestBest_0 : decode cX6_fewestBest 0 = .ok (.iconst 0, 1) := by decide +kernel
theorem dX6_fewestBest_1 : decode cX6_fewestBest 1 = .ok (.istore_n 3, 1) := by decide +kernel
theorem dX6_fewestBest_2 : decode cX6_fewestBest 2 = .ok (.iconst 1, 1) := by decide +kernel
theorem dX6_fewestBest_3 : decode cX6_fewestBest 3 = .ok (.istore 4, 2) := by decide +kernel
theorem dX6_fewestBest_5 : decode cX6_fewestBest 5 = .ok (.iload 4, 2) := by decide +kernel
theorem dX6_fewestBest_7 : decode cX6_fewestBest 7 = .ok (.iload_n 2, 1) := by decide +kernel
theorem dX6_fewestBest_8 : decode cX6_fewestBest 8 = .ok (.if_icmp .gt 63, 3) := by decide +kernel
theorem dX6_fewestBest_11 : decode cX6_fewestBest 11 = .ok (.aload_n 0, 1) := by decide +kernel
theorem dX6_fewestBest_12 : decode cX6_fewestBest 12 = .ok (.getfield 24, 3) := by decide +kernel
theorem dX6_fewestBest_15 : decode cX6_fewestBest 15 = .ok (.iload_n 1, 1) := by decide +kernel
theorem dX6_fewestBest_16 : decode cX6_fewestBest 16 = .ok (.aaload, 1) := by decide +kernel
theorem dX6_fewestBest_17 : decode cX6_fewestBest 17 = .ok (.iload 4, 2) := by decide +kernel
theorem dX6_fewestBest_19 : decode cX6_fewestBest 19 = .ok (.iaload, 1) := by decide +kernel
theorem dX6_fewestBest_20 : decode cX6_fewestBest 20 = .ok (.aload_n 0, 1) := by decide +kernel
theorem dX6_fewestBest_21 : decode cX6_fewestBest 21 = .ok (.getfield 27, 3) := by decide +kernel
theorem dX6_fewestBest_24 : decode cX6_fewestBest 24 = .ok (.iload_n 1, 1) := by decide +kernel
theorem dX6_fewestBest_25 : decode cX6_fewestBest 25 = .ok (.iconst 1, 1) := by decide +kernel
theorem dX6_fewestBest_26 : decode cX6_fewestBest 26 = .ok (.iadd, 1) := by decide +kernel
theorem dX6_fewestBest_27 : decode cX6_fewestBest 27 = .ok (.aaload, 1) := by decide +kernel
theorem dX6_fewestBest_28 : decode cX6_fewestBest 28 = .ok (.iload_n 2, 1) := by decide +kernel
theorem dX6_fewestBest_29 : decode cX6_fewestBest 29 = .ok (.iload 4, 2) := by decide +kernel
theorem dX6_fewestBest_31 : decode cX6_fewestBest 31 = .ok (.isub, 1) := by decide +kernel
theorem dX6_fewestBest_32 : decode cX6_fewestBest 32 = .ok (.iaload, 1) := by decide +kernel
theorem dX6_fewestBest_33 : decode cX6_fewestBest 33 = .ok (.iadd, 1) := by decide +kernel
theorem dX6_fewestBest_34 : decode cX6_fewestBest 34 = .ok (.istore 5, 2) := by decide +kernel
theorem dX6_fewestBest_36 : decode cX6_fewestBest 36 = .ok (.iload 5, 2) := by decide +kernel
theorem dX6_fewestBest_38 : decode cX6_fewestBest 38 = .ok (.aload_n 0, 1) := by decide +kernel
theorem dX6_fewestBest_39 : decode cX6_fewestBest 39 = .ok (.getfield 24, 3) := by decide +kernel
theorem dX6_fewestBest_42 : decode cX6_fewestBest 42 = .ok (.iload_n 1, 1) := by decide +kernel
theorem dX6_fewestBest_43 : decode cX6_fewestBest 43 = .ok (.aaload, 1) := by decide +kernel
theorem dX6_fewestBest_44 : decode cX6_fewestBest 44 = .ok (.iload_n 3, 1) := by decide +kernel
theorem dX6_fewestBest_45 : decode cX6_fewestBest 45 = .ok (.iaload, 1) := by decide +kernel
theorem dX6_fewestBest_46 : decode cX6_fewestBest 46 = .ok (.aload_n 0, 1) := by decide +kernel
theorem dX6_fewestBest_47 : decode cX6_fewestBest 47 = .ok (.getfield 27, 3) := by decide +kernel
theorem dX6_fewestBest_50 : decode cX6_fewestBest 50 = .ok (.iload_n 1, 1) := by decide +kernel
theorem dX6_fewestBest_51 : decode cX6_fewestBest 51 = .ok (.iconst 1, 1) := by decide +kernel
theorem dX6_fewestBest_52 : decode cX6_fewestBest 52 = .ok (.iadd, 1) := by decide +kernel
theorem dX6_fewestBest_53 : decode cX6_fewestBest 53 = .ok (.aaload, 1) := by decide +kernel
theorem dX6_fewestBest_54 : decode cX6_fewestBest 54 = .ok (.iload_n 2, 1) := by decide +kernel
theorem dX6_fewestBest_55 : decode cX6_fewestBest 55 = .ok (.iload_n 3, 1) := by decide +kernel
theorem dX6_fewestBest_56 : decode cX6_fewestBest 56 = .ok (.isub, 1) := by decide +kernel
theorem dX6_fewestBest_57 : decode cX6_fewestBest 57 = .ok (.iaload, 1) := by decide +kernel
theorem dX6_fewestBest_58 : decode cX6_fewestBest 58 = .ok (.iadd, 1) := by decide +kernel
theorem dX6_fewestBest_59 : decode cX6_fewestBest 59 = .ok (.if_icmp .ge 6, 3) := by decide +kernel
theorem dX6_fewestBest_62 : decode cX6_fewestBest 62 = .ok (.iload 4, 2) := by decide +kernel
theorem dX6_fewestBest_64 : decode cX6_fewestBest 64 = .ok (.istore_n 3, 1) := by decide +kernel
theorem dX6_fewestBest_65 : decode cX6_fewestBest 65 = .ok (.iinc 4 1, 3) := by decide +kernel
theorem dX6_fewestBest_68 : decode cX6_fewestBest 68 = .ok (.goto (-63), 3) := by decide +kernel
theorem dX6_fewestBest_71 : decode cX6_fewestBest 71 = .ok (.iload_n 3, 1) := by decide +kernel
theorem dX6_fewestBest_72 : decode cX6_fewestBest 72 = .ok (.ireturn, 1) := by decide +kernel
theorem dX6_shareOut_0 : decode cX6_shareOut 0 = .ok (.iload_n 1, 1) := by decide +kernel
theorem dX6_shareOut_1 : decode cX6_shareOut 1 = .ok (.aload_n 0, 1) := by decide +kernel
theorem dX6_shareOut_2 : decode cX6_shareOut 2 = .ok (.getfield 9, 3) := by decide +kernel
theorem dX6_shareOut_5 : decode cX6_shareOut 5 = .ok (.invokestatic 34, 3) := by decide +kernel
theorem dX6_shareOut_8 : decode cX6_shareOut 8 = .ok (.istore_n 2, 1) := by decide +kernel
theorem dX6_shareOut_9 : decode cX6_shareOut 9 = .ok (.iconst 0, 1) := by decide +kernel
theorem dX6_shareOut_10 : decode cX6_shareOut 10 = .ok (.istore_n 3, 1) := by decide +kernel
theorem dX6_shareOut_11 : decode cX6_shareOut 11 = .ok (.iload_n 3, 1) := by decide +kernel
theorem dX6_shareOut_12 : decode cX6_shareOut 12 = .ok (.aload_n 0, 1) := by decide +kernel
theorem dX6_shareOut_13 : decode cX6_shareOut 13 = .ok (.getfield 45, 3) := by decide +kernel
theorem dX6_shareOut_16 : decode cX6_shareOut 16 = .ok (.if_icmp .ge 30, 3) := by decide +kernel
theorem dX6_shareOut_19 : decode cX6_shareOut 19 = .ok (.aload_n 0, 1) := by decide +kernel
theorem dX6_shareOut_20 : decode cX6_shareOut 20 = .ok (.getfield 30, 3) := by decide +kernel
theorem dX6_shareOut_23 : decode cX6_shareOut 23 = .ok (.iload_n 3, 1) := by decide +kernel
theorem dX6_shareOut_24 : decode cX6_shareOut 24 = .ok (.aload_n 0, 1) := by decide +kernel
theorem dX6_shareOut_25 : decode cX6_shareOut 25 = .ok (.iload_n 3, 1) := by decide +kernel
theorem dX6_shareOut_26 : decode cX6_shareOut 26 = .ok (.iload_n 2, 1) := by decide +kernel
theorem dX6_shareOut_27 : decode cX6_shareOut 27 = .ok (.invokevirtual 58, 3) := by decide +kernel
theorem dX6_shareOut_30 : decode cX6_shareOut 30 = .ok (.iastore, 1) := by decide +kernel
theorem dX6_shareOut_31 : decode cX6_shareOut 31 = .ok (.iload_n 2, 1) := by decide +kernel
theorem dX6_shareOut_32 : decode cX6_shareOut 32 = .ok (.aload_n 0, 1) := by decide +kernel
theorem dX6_shareOut_33 : decode cX6_shareOut 33 = .ok (.getfield 30, 3) := by decide +kernel
theorem dX6_shareOut_36 : decode cX6_shareOut 36 = .ok (.iload_n 3, 1) := by decide +kernel
theorem dX6_shareOut_37 : decode cX6_shareOut 37 = .ok (.iaload, 1) := by decide +kernel
theorem dX6_shareOut_38 : decode cX6_shareOut 38 = .ok (.isub, 1) := by decide +kernel
theorem dX6_shareOut_39 : decode cX6_shareOut 39 = .ok (.istore_n 2, 1) := by decide +kernel
theorem dX6_shareOut_40 : decode cX6_shareOut 40 = .ok (.iinc 3 1, 3) := by decide +kernel
theorem dX6_shareOut_43 : decode cX6_shareOut 43 = .ok (.goto (-32), 3) := by decide +kernel
theorem dX6_shareOut_46 : decode cX6_shareOut 46 = .ok (.return_, 1) := by decide +kernel
theorem dX6_burnGiven_0 : decode cX6_burnGiven 0 = .ok (.aload_n 3, 1) := by decide +kernel
theorem dX6_burnGiven_1 : decode cX6_burnGiven 1 = .ok (.aload_n 2, 1) := by decide +kernel
theorem dX6_burnGiven_2 : decode cX6_burnGiven 2 = .ok (.invokevirtual 46, 3) := by decide +kernel
theorem dX6_burnGiven_5 : decode cX6_burnGiven 5 = .ok (.iconst 0, 1) := by decide +kernel
theorem dX6_burnGiven_6 : decode cX6_burnGiven 6 = .ok (.istore 4, 2) := by decide +kernel
theorem dX6_burnGiven_8 : decode cX6_burnGiven 8 = .ok (.iload 4, 2) := by decide +kernel
theorem dX6_burnGiven_10 : decode cX6_burnGiven 10 = .ok (.aload_n 0, 1) := by decide +kernel
theorem dX6_burnGiven_11 : decode cX6_burnGiven 11 = .ok (.getfield 45, 3) := by decide +kernel
theorem dX6_burnGiven_14 : decode cX6_burnGiven 14 = .ok (.if_icmp .ge 23, 3) := by decide +kernel
theorem dX6_burnGiven_17 : decode cX6_burnGiven 17 = .ok (.aload_n 1, 1) := by decide +kernel
theorem dX6_burnGiven_18 : decode cX6_burnGiven 18 = .ok (.aload_n 3, 1) := by decide +kernel
theorem dX6_burnGiven_19 : decode cX6_burnGiven 19 = .ok (.iload 4, 2) := by decide +kernel
theorem dX6_burnGiven_21 : decode cX6_burnGiven 21 = .ok (.aload_n 0, 1) := by decide +kernel
theorem dX6_burnGiven_22 : decode cX6_burnGiven 22 = .ok (.getfield 30, 3) := by decide +kernel
theorem dX6_burnGiven_25 : decode cX6_burnGiven 25 = .ok (.iload 4, 2) := by decide +kernel
theorem dX6_burnGiven_27 : decode cX6_burnGiven 27 = .ok (.iaload, 1) := by decide +kernel
theorem dX6_burnGiven_28 : decode cX6_burnGiven 28 = .ok (.invokevirtual 50, 3) := by decide +kernel
theorem dX6_burnGiven_31 : decode cX6_burnGiven 31 = .ok (.iinc 4 1, 3) := by decide +kernel
theorem dX6_burnGiven_34 : decode cX6_burnGiven 34 = .ok (.goto (-26), 3) := by decide +kernel
theorem dX6_burnGiven_37 : decode cX6_burnGiven 37 = .ok (.aload_n 1, 1) := by decide +kernel
theorem dX6_burnGiven_38 : decode cX6_burnGiven 38 = .ok (.aload_n 3, 1) := by decide +kernel
theorem dX6_burnGiven_39 : decode cX6_burnGiven 39 = .ok (.invokevirtual 61, 3) := by decide +kernel
theorem dX6_burnGiven_42 : decode cX6_burnGiven 42 = .ok (.aload_n 3, 1) := by decide +kernel
theorem dX6_burnGiven_43 : decode cX6_burnGiven 43 = .ok (.dup, 1) := by decide +kernel
theorem dX6_burnGiven_44 : decode cX6_burnGiven 44 = .ok (.getfield 64, 3) := by decide +kernel
theorem dX6_burnGiven_47 : decode cX6_burnGiven 47 = .ok (.iconst 1, 1) := by decide +kernel
theorem dX6_burnGiven_48 : decode cX6_burnGiven 48 = .ok (.iadd, 1) := by decide +kernel
theorem dX6_burnGiven_49 : decode cX6_burnGiven 49 = .ok (.putfield 64, 3) := by decide +kernel
theorem dX6_burnGiven_52 : decode cX6_burnGiven 52 = .ok (.return_, 1) := by decide +kernel
theorem dX6_weigh_0 : decode cX6_weigh 0 = .ok (.iload_n 3, 1) := by decide +kernel
theorem dX6_weigh_1 : decode cX6_weigh 1 = .ok (.aload_n 0, 1) := by decide +kernel
theorem dX6_weigh_2 : decode cX6_weigh 2 = .ok (.getfield 9, 3) := by decide +kernel
theorem dX6_weigh_5 : decode cX6_weigh 5 = .ok (.invokestatic 34, 3) := by decide +kernel
theorem dX6_weigh_8 : decode cX6_weigh 8 = .ok (.istore 4, 2) := by decide +kernel
theorem dX6_weigh_10 : decode cX6_weigh 10 = .ok (.aload_n 0, 1) := by decide +kernel
theorem dX6_weigh_11 : decode cX6_weigh 11 = .ok (.aload_n 1, 1) := by decide +kernel
theorem dX6_weigh_12 : decode cX6_weigh 12 = .ok (.getfield 40, 3) := by decide +kernel
theorem dX6_weigh_15 : decode cX6_weigh 15 = .ok (.putfield 45, 3) := by decide +kernel
theorem dX6_weigh_18 : decode cX6_weigh 18 = .ok (.aload_n 0, 1) := by decide +kernel
theorem dX6_weigh_19 : decode cX6_weigh 19 = .ok (.getfield 18, 3) := by decide +kernel
theorem dX6_weigh_22 : decode cX6_weigh 22 = .ok (.aload_n 2, 1) := by decide +kernel
theorem dX6_weigh_23 : decode cX6_weigh 23 = .ok (.invokevirtual 46, 3) := by decide +kernel
theorem dX6_weigh_26 : decode cX6_weigh 26 = .ok (.iconst 0, 1) := by decide +kernel
theorem dX6_weigh_27 : decode cX6_weigh 27 = .ok (.istore 5, 2) := by decide +kernel
theorem dX6_weigh_29 : decode cX6_weigh 29 = .ok (.iload 5, 2) := by decide +kernel
theorem dX6_weigh_31 : decode cX6_weigh 31 = .ok (.aload_n 0, 1) := by decide +kernel
theorem dX6_weigh_32 : decode cX6_weigh 32 = .ok (.getfield 45, 3) := by decide +kernel
theorem dX6_weigh_35 : decode cX6_weigh 35 = .ok (.if_icmp .ge 61, 3) := by decide +kernel
theorem dX6_weigh_38 : decode cX6_weigh 38 = .ok (.iconst 0, 1) := by decide +kernel
theorem dX6_weigh_39 : decode cX6_weigh 39 = .ok (.istore 6, 2) := by decide +kernel
theorem dX6_weigh_41 : decode cX6_weigh 41 = .ok (.iload 6, 2) := by decide +kernel
theorem dX6_weigh_43 : decode cX6_weigh 43 = .ok (.iload 4, 2) := by decide +kernel
theorem dX6_weigh_45 : decode cX6_weigh 45 = .ok (.if_icmp .gt 45, 3) := by decide +kernel
theorem dX6_weigh_48 : decode cX6_weigh 48 = .ok (.iload 6, 2) := by decide +kernel
theorem dX6_weigh_50 : decode cX6_weigh 50 = .ok (.ifCond .le 14, 3) := by decide +kernel
theorem dX6_weigh_53 : decode cX6_weigh 53 = .ok (.aload_n 1, 1) := by decide +kernel
theorem dX6_weigh_54 : decode cX6_weigh 54 = .ok (.aload_n 0, 1) := by decide +kernel
theorem dX6_weigh_55 : decode cX6_weigh 55 = .ok (.getfield 18, 3) := by decide +kernel
theorem dX6_weigh_58 : decode cX6_weigh 58 = .ok (.iload 5, 2) := by decide +kernel
theorem dX6_weigh_60 : decode cX6_weigh 60 = .ok (.iconst 1, 1) := by decide +kernel
theorem dX6_weigh_61 : decode cX6_weigh 61 = .ok (.invokevirtual 50, 3) := by decide +kernel
theorem dX6_weigh_64 : decode cX6_weigh 64 = .ok (.aload_n 0, 1) := by decide +kernel
theorem dX6_weigh_65 : decode cX6_weigh 65 = .ok (.getfield 24, 3) := by decide +kernel
theorem dX6_weigh_68 : decode cX6_weigh 68 = .ok (.iload 5, 2) := by decide +kernel
theorem dX6_weigh_70 : decode cX6_weigh 70 = .ok (.aaload, 1) := by decide +kernel
theorem dX6_weigh_71 : decode cX6_weigh 71 = .ok (.iload 6, 2) := by decide +kernel
theorem dX6_weigh_73 : decode cX6_weigh 73 = .ok (.aload_n 1, 1) := by decide +kernel
theorem dX6_weigh_74 : decode cX6_weigh 74 = .ok (.aload_n 0, 1) := by decide +kernel
theorem dX6_weigh_75 : decode cX6_weigh 75 = .ok (.getfield 18, 3) := by decide +kernel
theorem dX6_weigh_78 : decode cX6_weigh 78 = .ok (.iload 5, 2) := by decide +kernel
theorem dX6_weigh_80 : decode cX6_weigh 80 = .ok (.invokevirtual 54, 3) := by decide +kernel
theorem dX6_weigh_83 : decode cX6_weigh 83 = .ok (.iastore, 1) := by decide +kernel
theorem dX6_weigh_84 : decode cX6_weigh 84 = .ok (.iinc 6 1, 3) := by decide +kernel
theorem dX6_weigh_87 : decode cX6_weigh 87 = .ok (.goto (-46), 3) := by decide +kernel
theorem dX6_weigh_90 : decode cX6_weigh 90 = .ok (.iinc 5 1, 3) := by decide +kernel
theorem dX6_weigh_93 : decode cX6_weigh 93 = .ok (.goto (-64), 3) := by decide +kernel
theorem dX6_weigh_96 : decode cX6_weigh 96 = .ok (.iconst 0, 1) := by decide +kernel
theorem dX6_weigh_97 : decode cX6_weigh 97 = .ok (.istore 5, 2) := by decide +kernel
theorem dX6_weigh_99 : decode cX6_weigh 99 = .ok (.iload 5, 2) := by decide +kernel
theorem dX6_weigh_101 : decode cX6_weigh 101 = .ok (.iload 4, 2) := by decide +kernel
theorem dX6_weigh_103 : decode cX6_weigh 103 = .ok (.if_icmp .gt 22, 3) := by decide +kernel
theorem dX6_weigh_106 : decode cX6_weigh 106 = .ok (.aload_n 0, 1) := by decide +kernel
theorem dX6_weigh_107 : decode cX6_weigh 107 = .ok (.getfield 27, 3) := by decide +kernel
theorem dX6_weigh_110 : decode cX6_weigh 110 = .ok (.aload_n 0, 1) := by decide +kernel
theorem dX6_weigh_111 : decode cX6_weigh 111 = .ok (.getfield 45, 3) := by decide +kernel
theorem dX6_weigh_114 : decode cX6_weigh 114 = .ok (.aaload, 1) := by decide +kernel
theorem dX6_weigh_115 : decode cX6_weigh 115 = .ok (.iload 5, 2) := by decide +kernel
theorem dX6_weigh_117 : decode cX6_weigh 117 = .ok (.iconst 0, 1) := by decide +kernel
theorem dX6_weigh_118 : decode cX6_weigh 118 = .ok (.iastore, 1) := by decide +kernel
theorem dX6_weigh_119 : decode cX6_weigh 119 = .ok (.iinc 5 1, 3) := by decide +kernel
theorem dX6_weigh_122 : decode cX6_weigh 122 = .ok (.goto (-23), 3) := by decide +kernel
theorem dX6_weigh_125 : decode cX6_weigh 125 = .ok (.aload_n 0, 1) := by decide +kernel
theorem dX6_weigh_126 : decode cX6_weigh 126 = .ok (.getfield 45, 3) := by decide +kernel
theorem dX6_weigh_129 : decode cX6_weigh 129 = .ok (.iconst 1, 1) := by decide +kernel
theorem dX6_weigh_130 : decode cX6_weigh 130 = .ok (.isub, 1) := by decide +kernel
theorem dX6_weigh_131 : decode cX6_weigh 131 = .ok (.istore 5, 2) := by decide +kernel
theorem dX6_weigh_133 : decode cX6_weigh 133 = .ok (.iload 5, 2) := by decide +kernel
theorem dX6_weigh_135 : decode cX6_weigh 135 = .ok (.ifCond .lt 71, 3) := by decide +kernel
theorem dX6_weigh_138 : decode cX6_weigh 138 = .ok (.iconst 0, 1) := by decide +kernel
theorem dX6_weigh_139 : decode cX6_weigh 139 = .ok (.istore 6, 2) := by decide +kernel
theorem dX6_weigh_141 : decode cX6_weigh 141 = .ok (.iload 6, 2) := by decide +kernel
theorem dX6_weigh_143 : decode cX6_weigh 143 = .ok (.iload 4, 2) := by decide +kernel
theorem dX6_weigh_145 : decode cX6_weigh 145 = .ok (.if_icmp .gt 55, 3) := by decide +kernel
theorem dX6_weigh_148 : decode cX6_weigh 148 = .ok (.aload_n 0, 1) := by decide +kernel
theorem dX6_weigh_149 : decode cX6_weigh 149 = .ok (.iload 5, 2) := by decide +kernel
theorem dX6_weigh_151 : decode cX6_weigh 151 = .ok (.iload 6, 2) := by decide +kernel
theorem dX6_weigh_153 : decode cX6_weigh 153 = .ok (.invokevirtual 58, 3) := by decide +kernel
theorem dX6_weigh_156 : decode cX6_weigh 156 = .ok (.istore 7, 2) := by decide +kernel
theorem dX6_weigh_158 : decode cX6_weigh 158 = .ok (.aload_n 0, 1) := by decide +kernel
theorem dX6_weigh_159 : decode cX6_weigh 159 = .ok (.getfield 27, 3) := by decide +kernel
theorem dX6_weigh_162 : decode cX6_weigh 162 = .ok (.iload 5, 2) := by decide +kernel
theorem dX6_weigh_164 : decode cX6_weigh 164 = .ok (.aaload, 1) := by decide +kernel
theorem dX6_weigh_165 : decode cX6_weigh 165 = .ok (.iload 6, 2) := by decide +kernel
theorem dX6_weigh_167 : decode cX6_weigh 167 = .ok (.aload_n 0, 1) := by decide +kernel
theorem dX6_weigh_168 : decode cX6_weigh 168 = .ok (.getfield 24, 3) := by decide +kernel
theorem dX6_weigh_171 : decode cX6_weigh 171 = .ok (.iload 5, 2) := by decide +kernel
theorem dX6_weigh_173 : decode cX6_weigh 173 = .ok (.aaload, 1) := by decide +kernel
theorem dX6_weigh_174 : decode cX6_weigh 174 = .ok (.iload 7, 2) := by decide +kernel
theorem dX6_weigh_176 : decode cX6_weigh 176 = .ok (.iaload, 1) := by decide +kernel
theorem dX6_weigh_177 : decode cX6_weigh 177 = .ok (.aload_n 0, 1) := by decide +kernel
theorem dX6_weigh_178 : decode cX6_weigh 178 = .ok (.getfield 27, 3) := by decide +kernel
theorem dX6_weigh_181 : decode cX6_weigh 181 = .ok (.iload 5, 2) := by decide +kernel
theorem dX6_weigh_183 : decode cX6_weigh 183 = .ok (.iconst 1, 1) := by decide +kernel
theorem dX6_weigh_184 : decode cX6_weigh 184 = .ok (.iadd, 1) := by decide +kernel
theorem dX6_weigh_185 : decode cX6_weigh 185 = .ok (.aaload, 1) := by decide +kernel
theorem dX6_weigh_186 : decode cX6_weigh 186 = .ok (.iload 6, 2) := by decide +kernel
theorem dX6_weigh_188 : decode cX6_weigh 188 = .ok (.iload 7, 2) := by decide +kernel
theorem dX6_weigh_190 : decode cX6_weigh 190 = .ok (.isub, 1) := by decide +kernel
theorem dX6_weigh_191 : decode cX6_weigh 191 = .ok (.iaload, 1) := by decide +kernel
theorem dX6_weigh_192 : decode cX6_weigh 192 = .ok (.iadd, 1) := by decide +kernel
theorem dX6_weigh_193 : decode cX6_weigh 193 = .ok (.iastore, 1) := by decide +kernel
theorem dX6_weigh_194 : decode cX6_weigh 194 = .ok (.iinc 6 1, 3) := by decide +kernel
theorem dX6_weigh_197 : decode cX6_weigh 197 = .ok (.goto (-56), 3) := by decide +kernel
theorem dX6_weigh_200 : decode cX6_weigh 200 = .ok (.iinc 5 (-1), 3) := by decide +kernel
theorem dX6_weigh_203 : decode cX6_weigh 203 = .ok (.goto (-70), 3) := by decide +kernel
theorem dX6_weigh_206 : decode cX6_weigh 206 = .ok (.return_, 1) := by decide +kernel
theorem dX6_leastLoss_0 : decode cX6_leastLoss 0 = .ok (.iload_n 1, 1) := by decide +kernel
theorem dX6_leastLoss_1 : decode cX6_leastLoss 1 = .ok (.ifCond .lt 22, 3) := by decide +kernel
theorem dX6_leastLoss_4 : decode cX6_leastLoss 4 = .ok (.iload_n 1, 1) := by decide +kernel
theorem dX6_leastLoss_5 : decode cX6_leastLoss 5 = .ok (.aload_n 0, 1) := by decide +kernel
theorem dX6_leastLoss_6 : decode cX6_leastLoss 6 = .ok (.getfield 9, 3) := by decide +kernel
theorem dX6_leastLoss_9 : decode cX6_leastLoss 9 = .ok (.if_icmp .gt 14, 3) := by decide +kernel
theorem dX6_leastLoss_12 : decode cX6_leastLoss 12 = .ok (.aload_n 0, 1) := by decide +kernel
theorem dX6_leastLoss_13 : decode cX6_leastLoss 13 = .ok (.getfield 27, 3) := by decide +kernel
theorem dX6_leastLoss_16 : decode cX6_leastLoss 16 = .ok (.iconst 0, 1) := by decide +kernel
theorem dX6_leastLoss_17 : decode cX6_leastLoss 17 = .ok (.aaload, 1) := by decide +kernel
theorem dX6_leastLoss_18 : decode cX6_leastLoss 18 = .ok (.iload_n 1, 1) := by decide +kernel
theorem dX6_leastLoss_19 : decode cX6_leastLoss 19 = .ok (.iaload, 1) := by decide +kernel
theorem dX6_leastLoss_20 : decode cX6_leastLoss 20 = .ok (.goto 4, 3) := by decide +kernel
theorem dX6_leastLoss_23 : decode cX6_leastLoss 23 = .ok (.iconst 0, 1) := by decide +kernel
theorem dX6_leastLoss_24 : decode cX6_leastLoss 24 = .ok (.ireturn, 1) := by decide +kernel
theorem dX11_keptByPlan_0 : decode cX11_keptByPlan 0 = .ok (.aload_n 0, 1) := by decide +kernel
theorem dX11_keptByPlan_1 : decode cX11_keptByPlan 1 = .ok (.getfield 61, 3) := by decide +kernel
theorem dX11_keptByPlan_4 : decode cX11_keptByPlan 4 = .ok (.iload_n 1, 1) := by decide +kernel
theorem dX11_keptByPlan_5 : decode cX11_keptByPlan 5 = .ok (.invokevirtual 242, 3) := by decide +kernel
theorem dX11_keptByPlan_8 : decode cX11_keptByPlan 8 = .ok (.aload_n 0, 1) := by decide +kernel
theorem dX11_keptByPlan_9 : decode cX11_keptByPlan 9 = .ok (.getfield 61, 3) := by decide +kernel
theorem dX11_keptByPlan_12 : decode cX11_keptByPlan 12 = .ok (.aload_n 0, 1) := by decide +kernel
theorem dX11_keptByPlan_13 : decode cX11_keptByPlan 13 = .ok (.getfield 23, 3) := by decide +kernel
theorem dX11_keptByPlan_16 : decode cX11_keptByPlan 16 = .ok (.aload_n 0, 1) := by decide +kernel
theorem dX11_keptByPlan_17 : decode cX11_keptByPlan 17 = .ok (.getfield 39, 3) := by decide +kernel
theorem dX11_keptByPlan_20 : decode cX11_keptByPlan 20 = .ok (.aload_n 0, 1) := by decide +kernel
theorem dX11_keptByPlan_21 : decode cX11_keptByPlan 21 = .ok (.getfield 42, 3) := by decide +kernel
theorem dX11_keptByPlan_24 : decode cX11_keptByPlan 24 = .ok (.invokevirtual 251, 3) := by decide +kernel
theorem dX11_keptByPlan_27 : decode cX11_keptByPlan 27 = .ok (.aload_n 0, 1) := by decide +kernel
theorem dX11_keptByPlan_28 : decode cX11_keptByPlan 28 = .ok (.getfield 64, 3) := by decide +kernel
theorem dX11_keptByPlan_31 : decode cX11_keptByPlan 31 = .ok (.aload_n 0, 1) := by decide +kernel
theorem dX11_keptByPlan_32 : decode cX11_keptByPlan 32 = .ok (.getfield 23, 3) := by decide +kernel
theorem dX11_keptByPlan_35 : decode cX11_keptByPlan 35 = .ok (.aload_n 0, 1) := by decide +kernel
theorem dX11_keptByPlan_36 : decode cX11_keptByPlan 36 = .ok (.getfield 42, 3) := by decide +kernel
theorem dX11_keptByPlan_39 : decode cX11_keptByPlan 39 = .ok (.iload_n 2, 1) := by decide +kernel
theorem dX11_keptByPlan_40 : decode cX11_keptByPlan 40 = .ok (.invokevirtual 235, 3) := by decide +kernel
theorem dX11_keptByPlan_43 : decode cX11_keptByPlan 43 = .ok (.aload_n 0, 1) := by decide +kernel
theorem dX11_keptByPlan_44 : decode cX11_keptByPlan 44 = .ok (.getfield 42, 3) := by decide +kernel
theorem dX11_keptByPlan_47 : decode cX11_keptByPlan 47 = .ok (.iconst 3, 1) := by decide +kernel
theorem dX11_keptByPlan_48 : decode cX11_keptByPlan 48 = .ok (.invokevirtual 164, 3) := by decide +kernel
theorem dX11_keptByPlan_51 : decode cX11_keptByPlan 51 = .ok (.aload_n 0, 1) := by decide +kernel
theorem dX11_keptByPlan_52 : decode cX11_keptByPlan 52 = .ok (.getfield 64, 3) := by decide +kernel
theorem dX11_keptByPlan_55 : decode cX11_keptByPlan 55 = .ok (.iload_n 2, 1) := by decide +kernel
theorem dX11_keptByPlan_56 : decode cX11_keptByPlan 56 = .ok (.invokevirtual 239, 3) := by decide +kernel
theorem dX11_keptByPlan_59 : decode cX11_keptByPlan 59 = .ok (.isub, 1) := by decide +kernel
theorem dX11_keptByPlan_60 : decode cX11_keptByPlan 60 = .ok (.ireturn, 1) := by decide +kernel
section WK2
variable {p : Program} {l : Launch} {e : Env} {s : State} {m : MethodId} {args : Array Value} {below : List Frame} {meth : Method} {c : Code} {ω : WW}

set_option maxHeartbeats 4000000 in
set_option maxRecDepth 100000 in
theorem wX11_distanceToJoined_s7 (hW : FWC ω) (C : Cx ω p s m args c cX11_distanceToJoined 5 RX11) (hr : meth.sig.returnType = some .int) (hk : meth.locks = false) {rr : Int32} {μ : Mem} {x1 : Int32} {x2 : Int32} {x3 : Int32} {x4 : Int32} {rec : Int32 → Int32 → Option Int32} (hrec : ∀ (z3 : Int32) (z4 : Int32) (H : Heap) (locs : List Loc) (ls : Array Slot), Hd ω μ H → FS ω s H locs → lv_has ls 5 [(0, .ref (wB ω + 1)), (1, .int x1), (2, .int x2), (3, .int z3), (4, .int z4)] → rec z3 z4 = some rr → W p l e (rmd 4) s m args below meth c H locs 0 0 (MQ below (QR ω (some (.int rr)) μ) args s 0 0 (wA ω)) (F0 m 7 ls [])) {H : Heap} {locs : List Loc} {ls : Array Slot} (hH : Hd ω μ H) (hS : FS ω s H locs) (hl : lv_has ls 5 [(0, .ref (wB ω + 1)), (1, .int x1), (2, .int x2), (3, .int x3), (4, .int x4)]) (h : fX11_distanceToJoined_s7 rec x1 x2 x3 x4 μ = some rr) : W p l e (rmd 4) s m args below meth c H locs 0 0 (MQ below (QR ω (some (.int rr)) μ) args s 0 0 (wA ω)) (F0 m 7 ls []) := by
  have hx := C.1
  have hb := C.2.1
  unfold fX11_distanceToJoined_s7 at h
  refine lv_iload hx hb dX11_distanceToJoined_7 (lv_at hl 4 rfl) ?_
  refine lv_aload_n hx hb dX11_distanceToJoined_9 rfl (lv_at hl 0 rfl) ?_
  refine g_476 (i := 17) C hH (jC_1 hW) rfl dX11_distanceToJoined_10 ?_
  refine g_265 C hH (jC_17 hW) dX11_distanceToJoined_13 ?_
  refine lv_icmp_ge (tgt := 50) hx hb dX11_distanceToJoined_16 (by decide) (fun hc => ?_) (fun hc => ?_)
  · have h := ite_t hc h
    refine lv_iload_n hx hb dX11_distanceToJoined_50 rfl (lv_at hl 3 rfl) ?_
    exact h_iret C hr hk hH hS rfl (by cases h; rfl) dX11_distanceToJoined_51
  · have h := ite_f hc h
    refine lv_iload_n hx hb dX11_distanceToJoined_19 rfl (lv_at hl 2 rfl) ?_
    refine lv_iload hx hb dX11_distanceToJoined_20 (lv_at hl 4 rfl) ?_
    refine lv_ishr hx hb dX11_distanceToJoined_22 ?_
    refine lv_iconst (v := 1) hx hb dX11_distanceToJoined_23 (by decide) ?_
    refine lv_iand hx hb dX11_distanceToJoined_24 ?_
    refine lv_iconst (v := 1) hx hb dX11_distanceToJoined_25 (by decide) ?_
    refine lv_icmp_ne (tgt := 44) hx hb dX11_distanceToJoined_26 (by decide) (fun hc => ?_) (fun hc => ?_)
    · have h := ite_f hc h
      refine lv_iinc (v := x4 + 1) (lv' := [(4, .int (x4 + 1)), (0, .ref (wB ω + 1)), (1, .int x1), (2, .int x2), (3, .int x3)]) hx hb dX11_distanceToJoined_44 hl (k := 4) rfl rfl (by decide) rfl (fun ls hl => ?_)
      refine lv_goto (tgt := 7) hx hb dX11_distanceToJoined_47 (by decide) ?_
      exact hrec _ _ H locs ls hH hS (lv_sub hl [1, 2, 3, 4, 0] rfl) h
    · have h := ite_t hc h
      refine lv_iload_n hx hb dX11_distanceToJoined_29 rfl (lv_at hl 3 rfl) ?_
      refine lv_aload_n hx hb dX11_distanceToJoined_30 rfl (lv_at hl 0 rfl) ?_
      refine g_476 (i := 17) C hH (jC_1 hW) rfl dX11_distanceToJoined_31 ?_
      refine lv_iload_n hx hb dX11_distanceToJoined_34 rfl (lv_at hl 1 rfl) ?_
      refine lv_iload hx hb dX11_distanceToJoined_35 (lv_at hl 4 rfl) ?_
      obtain ⟨r2, e1, h⟩ := b1_e h
      refine cVi (as := [.int x1, .int x4]) (rest := [.int x3]) (c_X3_distance (qC_17 hW) e1) C hl.1 hH hS rfl (jC_17 hW) rfl wd_1029 wd_1028 mw_X3_distance wd_1027 rfl (rm_ok (by decide) (by decide)) (Nat.le_of_ble_eq_true rfl) ⟨Nat.zero_le _, Nat.zero_le _⟩ (by decide) dX11_distanceToJoined_37 (fun H locs hH hS => ?_)
      refine h_mmin C hl.1 wd_851 (rest := []) (Nat.le_of_ble_eq_true rfl) (Nat.le_of_ble_eq_true rfl) ⟨Nat.zero_le _, Nat.zero_le _⟩ dX11_distanceToJoined_40 ?_
      refine h_topi (y := jmin x3 r2) rfl ?_
      obtain ⟨y3, e4, h⟩ := bd_e h
      refine h_topi e4 ?_
      refine lv_istore_n (lv' := [(3, .int y3), (0, .ref (wB ω + 1)), (1, .int x1), (2, .int x2), (4, .int x4)]) hx hb dX11_distanceToJoined_43 rfl hl (by decide) rfl (fun ls hl => ?_)
      refine lv_iinc (v := x4 + 1) (lv' := [(4, .int (x4 + 1)), (3, .int y3), (0, .ref (wB ω + 1)), (1, .int x1), (2, .int x2)]) hx hb dX11_distanceToJoined_44 hl (k := 4) rfl rfl (by decide) rfl (fun ls hl => ?_)
      refine lv_goto (tgt := 7) hx hb dX11_distanceToJoined_47 (by decide) ?_
      exact hrec _ _ H locs ls hH hS (lv_sub hl [2, 3, 4, 1, 0] rfl) h
theorem wX11_distanceToJoined_l7 (hW : FWC ω) (C : Cx ω p s m args c cX11_distanceToJoined 5 RX11) (hr : meth.sig.returnType = some .int) (hk : meth.locks = false) {rr : Int32} {μ : Mem} {x1 : Int32} {x2 : Int32} : ∀ (n : Nat) (x3 : Int32) (x4 : Int32) (H : Heap) (locs : List Loc) (ls : Array Slot), Hd ω μ H → FS ω s H locs → lv_has ls 5 [(0, .ref (wB ω + 1)), (1, .int x1), (2, .int x2), (3, .int x3), (4, .int x4)] → fX11_distanceToJoined_l7 x1 x2 μ n x3 x4 = some rr → W p l e (rmd 4) s m args below meth c H locs 0 0 (MQ below (QR ω (some (.int rr)) μ) args s 0 0 (wA ω)) (F0 m 7 ls []) := by
  intro n
  induction n with
  | zero => intro x3 x4 H locs ls hH hS hl h; cases h
  | succ n ih => intro x3 x4 H locs ls hH hS hl h; exact wX11_distanceToJoined_s7 hW C hr hk ih hH hS hl h
set_option maxHeartbeats 4000000 in
set_option maxRecDepth 100000 in
theorem wX11_distanceToJoined_e (hW : FWC ω) (C : Cx ω p s m args c cX11_distanceToJoined 5 RX11) (hr : meth.sig.returnType = some .int) (hk : meth.locks = false) {rr : Int32} {μ : Mem} {x1 : Int32} {x2 : Int32} {H : Heap} {locs : List Loc} {ls : Array Slot} (hH : Hd ω μ H) (hS : FS ω s H locs) (hl : lv_has ls 5 [(0, .ref (wB ω + 1)), (1, .int x1), (2, .int x2)]) (h : fX11_distanceToJoined x1 x2 μ = some rr) : W p l e (rmd 4) s m args below meth c H locs 0 0 (MQ below (QR ω (some (.int rr)) μ) args s 0 0 (wA ω)) (F0 m 0 ls []) := by
  have hx := C.1
  have hb := C.2.1
  unfold fX11_distanceToJoined at h
  refine lv_ldcw (v := 1000000) hx hb C.2.2.2.1 (C.2.2.2.2.1 _ (tg wd_1063 rfl)) dX11_distanceToJoined_0 ?_
  refine lv_istore_n (lv' := [(3, .int 1000000), (0, .ref (wB ω + 1)), (1, .int x1), (2, .int x2)]) hx hb dX11_distanceToJoined_3 rfl hl (by decide) rfl (fun ls hl => ?_)
  refine lv_iconst (v := 0) hx hb dX11_distanceToJoined_4 (by decide) ?_
  refine lv_istore (lv' := [(4, .int 0), (3, .int 1000000), (0, .ref (wB ω + 1)), (1, .int x1), (2, .int x2)]) hx hb dX11_distanceToJoined_5 hl (by decide) rfl (fun ls hl => ?_)
  exact wX11_distanceToJoined_l7 hW C hr hk FU _ _ H locs ls hH hS (lv_sub hl [2, 3, 4, 1, 0] rfl) h
theorem c_X11_distanceToJoined {l : Launch} {ω : WW} {x1 : Int32} {x2 : Int32} (hW : FWC ω) {μ : Mem} {rr : Int32} (h : fX11_distanceToJoined x1 x2 μ = some rr) : Con l yX11_distanceToJoined cX11_distanceToJoined 5 (some .int) 4 ω [.ref (wB ω + 1), .int x1, .int x2] μ (some (.int rr)) μ :=
  con_of (by decide) (Nat.le_of_ble_eq_true rfl) (fun p e s m args below meth c ls C hr hk hl hH hS => wX11_distanceToJoined_e hW C hr hk hH hS (lv_sub hl [0, 1, 2] rfl) h)
set_option maxHeartbeats 4000000 in
set_option maxRecDepth 100000 in
theorem wX11_door_b9 (hW : FWC ω) (C : Cx ω p s m args c cX11_door 4 RX11) (hr : meth.sig.returnType = some .boolean) (hk : meth.locks = false) {rr : Int32} {μo : Mem} {x1 : Int32} {k0 : Int32} {μ : Mem} {H : Heap} {locs : List Loc} {ls : Array Slot} (hH : Hd ω μ H) (hS : FS ω s H locs) (hl : lv_has ls 4 [(0, .ref (wB ω + 1)), (1, .int x1)]) (h : fX11_door_b9 x1 k0 μ = some (rr, μo)) : W p l e (rmd 4) s m args below meth c H locs 0 0 (MQ below (QR ω (some (.int rr)) μo) args s 0 0 (wA ω)) (F0 m 9 ls [.int k0]) := by
  have hx := C.1
  have hb := C.2.1
  unfold fX11_door_b9 at h
  refine lv_istore_n (lv' := [(3, .int k0), (0, .ref (wB ω + 1)), (1, .int x1)]) hx hb dX11_door_9 rfl hl (by decide) rfl (fun ls hl => ?_)
  refine lv_aload_n hx hb dX11_door_10 rfl (lv_at hl 1 rfl) ?_
  refine lv_iload_n hx hb dX11_door_11 rfl (lv_at hl 2 rfl) ?_
  obtain ⟨r2, e1, h⟩ := b1_e h
  refine cVi (as := [.int x1]) (rest := []) (c_X11_isHouse hW e1) C hl.1 hH hS rfl (jC_1 hW) rfl wd_15 wd_741 mw_X11_isHouse wd_739 rfl (rm_ok (by decide) (by decide)) (Nat.le_of_ble_eq_true rfl) ⟨Nat.zero_le _, Nat.zero_le _⟩ (by decide) dX11_door_12 (fun H locs hH hS => ?_)
  refine lv_if_eq (tgt := 31) hx hb dX11_door_15 (by decide) (fun hc => ?_) (fun hc => ?_)
  · have h := ite_t hc h
    refine lv_iconst (v := 0) hx hb dX11_door_31 (by decide) ?_
    exact h_zret (y := 0) C hr hk hH hS rfl (by cases h; rfl) dX11_door_32
  · have h := ite_f hc h
    refine lv_aload_n hx hb dX11_door_18 rfl (lv_at hl 1 rfl) ?_
    refine g_477 (i := 24) C hH (jC_1 hW) rfl dX11_door_19 ?_
    refine lv_iload_n hx hb dX11_door_22 rfl (lv_at hl 2 rfl) ?_
    refine lv_iconst (v := 4) hx hb dX11_door_23 (by decide) ?_
    obtain ⟨r4, e3, h⟩ := b1_e h
    refine cVi (as := [.int x1, .int 4]) (rest := []) (c_X7_get (sC_24 hW) e3) C hl.1 hH hS rfl (jC_24 hW) rfl wd_745 wd_744 mw_X7_get wd_743 rfl (rm_ok (by decide) (by decide)) (Nat.le_of_ble_eq_true rfl) ⟨Nat.zero_le _, Nat.zero_le _⟩ (by decide) dX11_door_24 (fun H locs hH hS => ?_)
    refine lv_iload_n hx hb dX11_door_27 rfl (lv_at hl 0 rfl) ?_
    refine lv_icmp_ne (tgt := 33) hx hb dX11_door_28 (by decide) (fun hc => ?_) (fun hc => ?_)
    · have h := ite_f hc h
      refine lv_aload_n hx hb dX11_door_33 rfl (lv_at hl 1 rfl) ?_
      refine g_480 (i := 30) C hH (jC_1 hW) rfl dX11_door_34 ?_
      refine lv_aload_n hx hb dX11_door_37 rfl (lv_at hl 1 rfl) ?_
      refine g_477 (i := 24) C hH (jC_1 hW) rfl dX11_door_38 ?_
      obtain ⟨μ6, e5, h⟩ := b1_e h
      refine cVv (as := [.ref (wB ω + 24)]) (rest := []) (c_X0_push hW (sC_24 hW) e5) C hl.1 hH hS rfl (jC_30 hW) rfl wd_825 wd_824 mw_X0_push wd_823 rfl (rm_ok (by decide) (by decide)) (Nat.le_of_ble_eq_true rfl) ⟨Nat.zero_le _, Nat.zero_le _⟩ (by decide) dX11_door_41 (fun H locs hH hS => ?_)
      refine lv_aload_n hx hb dX11_door_44 rfl (lv_at hl 1 rfl) ?_
      refine g_477 (i := 24) C hH (jC_1 hW) rfl dX11_door_45 ?_
      refine lv_iload_n hx hb dX11_door_48 rfl (lv_at hl 2 rfl) ?_
      refine lv_iconst (v := 4) hx hb dX11_door_49 (by decide) ?_
      refine lv_iload_n hx hb dX11_door_50 rfl (lv_at hl 0 rfl) ?_
      obtain ⟨μ8, e7, h⟩ := b1_e h
      refine cVv (as := [.int x1, .int 4, .int k0]) (rest := []) (c_X7_set (sC_24 hW) e7) C hl.1 hH hS rfl (jC_24 hW) rfl wd_721 wd_720 mw_X7_set wd_842 rfl (rm_ok (by decide) (by decide)) (Nat.le_of_ble_eq_true rfl) ⟨Nat.zero_le _, Nat.zero_le _⟩ (by decide) dX11_door_51 (fun H locs hH hS => ?_)
      refine lv_iconst (v := 1) hx hb dX11_door_54 (by decide) ?_
      exact h_zret (y := 1) C hr hk hH hS rfl (by cases h; rfl) dX11_door_55
    · have h := ite_t hc h
      refine lv_iconst (v := 0) hx hb dX11_door_31 (by decide) ?_
      exact h_zret (y := 0) C hr hk hH hS rfl (by cases h; rfl) dX11_door_32
set_option maxHeartbeats 4000000 in
set_option maxRecDepth 100000 in
theorem wX11_door_e (hW : FWC ω) (C : Cx ω p s m args c cX11_door 4 RX11) (hr : meth.sig.returnType = some .boolean) (hk : meth.locks = false) {rr : Int32} {μo : Mem} {x1 : Int32} {x2 : Int32} {μ : Mem} {H : Heap} {locs : List Loc} {ls : Array Slot} (hH : Hd ω μ H) (hS : FS ω s H locs) (hl : lv_has ls 4 [(0, .ref (wB ω + 1)), (1, .int x1), (2, .int x2)]) (h : fX11_door x1 x2 μ = some (rr, μo)) : W p l e (rmd 4) s m args below meth c H locs 0 0 (MQ below (QR ω (some (.int rr)) μo) args s 0 0 (wA ω)) (F0 m 0 ls []) := by
  have hx := C.1
  have hb := C.2.1
  unfold fX11_door at h
  refine lv_iload_n hx hb dX11_door_0 rfl (lv_at hl 2 rfl) ?_
  refine lv_if_eq (tgt := 8) hx hb dX11_door_1 (by decide) (fun hc => ?_) (fun hc => ?_)
  · have h := ite_t hc h
    refine lv_iconst (v := 0) hx hb dX11_door_8 (by decide) ?_
    exact wX11_door_b9 hW C hr hk hH hS (lv_sub hl [0, 1] rfl) h
  · have h := ite_f hc h
    refine lv_iconst (v := 1) hx hb dX11_door_4 (by decide) ?_
    refine lv_goto (tgt := 9) hx hb dX11_door_5 (by decide) ?_
    exact wX11_door_b9 hW C hr hk hH hS (lv_sub hl [0, 1] rfl) h
theorem c_X11_door {l : Launch} {ω : WW} {x1 : Int32} {x2 : Int32} (hW : FWC ω) {μ : Mem} {rr : Int32} {μo : Mem} (h : fX11_door x1 x2 μ = some (rr, μo)) : Con l yX11_door cX11_door 4 (some .boolean) 4 ω [.ref (wB ω + 1), .int x1, .int x2] μ (some (.int rr)) μo :=
  con_of (by decide) (Nat.le_of_ble_eq_true rfl) (fun p e s m args below meth c ls C hr hk hl hH hS => wX11_door_e hW C hr hk hH hS (lv_sub hl [0, 1, 2] rfl) h)
set_option maxHeartbeats 4000000 in
set_option maxRecDepth 100000 in
theorem wX11_draughty_s20 (hW : FWC ω) (C : Cx ω p s m args c cX11_draughty 6 RX11) (hr : meth.sig.returnType = some .int) (hk : meth.locks = false) {rr : Int32} {μo : Mem} {x1 : Int32} {x2 : Int32} {x3 : Int32} {x4 : Int32} {rec : Int32 → Int32 → Int32 → Mem → Option (Int32 × Mem)} (hrec : ∀ (z2 : Int32) (z3 : Int32) (z4 : Int32) (ν : Mem) (H : Heap) (locs : List Loc) (ls : Array Slot), Hd ω ν H → FS ω s H locs → lv_has ls 6 [(0, .ref (wB ω + 1)), (1, .int x1), (2, .int z2), (3, .int z3), (4, .int z4)] → rec z2 z3 z4 ν = some (rr, μo) → W p l e (rmd 4) s m args below meth c H locs 0 0 (MQ below (QR ω (some (.int rr)) μo) args s 0 0 (wA ω)) (F0 m 20 ls [])) {μ : Mem} {H : Heap} {locs : List Loc} {ls : Array Slot} (hH : Hd ω μ H) (hS : FS ω s H locs) (hl : lv_has ls 6 [(0, .ref (wB ω + 1)), (1, .int x1), (2, .int x2), (3, .int x3), (4, .int x4)]) (h : fX11_draughty_s20 rec x1 x2 x3 x4 μ = some (rr, μo)) : W p l e (rmd 4) s m args below meth c H locs 0 0 (MQ below (QR ω (some (.int rr)) μo) args s 0 0 (wA ω)) (F0 m 20 ls []) := by
  have hx := C.1
  have hb := C.2.1
  unfold fX11_draughty_s20 at h
  refine lv_iload hx hb dX11_draughty_20 (lv_at hl 4 rfl) ?_
  refine lv_aload_n hx hb dX11_draughty_22 rfl (lv_at hl 0 rfl) ?_
  refine g_476 (i := 17) C hH (jC_1 hW) rfl dX11_draughty_23 ?_
  refine g_265 C hH (jC_17 hW) dX11_draughty_26 ?_
  refine lv_icmp_ge (tgt := 79) hx hb dX11_draughty_29 (by decide) (fun hc => ?_) (fun hc => ?_)
  · have h := ite_t hc h
    refine lv_iload_n hx hb dX11_draughty_79 rfl (lv_at hl 1 rfl) ?_
    refine lv_if_ne (tgt := 87) hx hb dX11_draughty_80 (by decide) (fun hc => ?_) (fun hc => ?_)
    · have h := ite_f hc h
      refine lv_iload_n hx hb dX11_draughty_87 rfl (lv_at hl 3 rfl) ?_
      exact h_iret C hr hk hH hS rfl (by cases h; rfl) dX11_draughty_88
    · have h := ite_t hc h
      refine lv_iload_n hx hb dX11_draughty_83 rfl (lv_at hl 2 rfl) ?_
      refine lv_goto (tgt := 88) hx hb dX11_draughty_84 (by decide) ?_
      exact h_iret C hr hk hH hS rfl (by cases h; rfl) dX11_draughty_88
  · have h := ite_f hc h
    refine lv_aload_n hx hb dX11_draughty_32 rfl (lv_at hl 0 rfl) ?_
    refine g_476 (i := 17) C hH (jC_1 hW) rfl dX11_draughty_33 ?_
    refine lv_aload_n hx hb dX11_draughty_36 rfl (lv_at hl 0 rfl) ?_
    refine g_477 (i := 24) C hH (jC_1 hW) rfl dX11_draughty_37 ?_
    refine lv_iload hx hb dX11_draughty_40 (lv_at hl 4 rfl) ?_
    obtain ⟨r3, μ2, e1, h⟩ := b2_e h
    refine cVi (as := [.ref (wB ω + 24), .int x4]) (rest := []) (c_X3_cools (qC_17 hW) (sC_24 hW) e1) C hl.1 hH hS rfl (jC_17 hW) rfl wd_749 wd_748 mw_X3_cools wd_747 rfl (rm_ok (by decide) (by decide)) (Nat.le_of_ble_eq_true rfl) ⟨Nat.zero_le _, Nat.zero_le _⟩ (by decide) dX11_draughty_42 (fun H locs hH hS => ?_)
    refine lv_aload_n hx hb dX11_draughty_45 rfl (lv_at hl 0 rfl) ?_
    refine g_476 (i := 17) C hH (jC_1 hW) rfl dX11_draughty_46 ?_
    refine lv_aload_n hx hb dX11_draughty_49 rfl (lv_at hl 0 rfl) ?_
    refine g_477 (i := 24) C hH (jC_1 hW) rfl dX11_draughty_50 ?_
    refine lv_iload hx hb dX11_draughty_53 (lv_at hl 4 rfl) ?_
    obtain ⟨r5, e4, h⟩ := b1_e h
    refine cVi (as := [.ref (wB ω + 24), .int x4]) (rest := [.int r3]) (c_X3_timesCooled (qC_17 hW) (sC_24 hW) e4) C hl.1 hH hS rfl (jC_17 hW) rfl wd_872 wd_871 mw_X3_timesCooled wd_1008 rfl (rm_ok (by decide) (by decide)) (Nat.le_of_ble_eq_true rfl) ⟨Nat.zero_le _, Nat.zero_le _⟩ (by decide) dX11_draughty_55 (fun H locs hH hS => ?_)
    refine lv_imul hx hb dX11_draughty_58 ?_
    obtain ⟨y6, e7, h⟩ := bd_e h
    refine h_topi e7 ?_
    refine lv_istore (lv' := [(5, .int y6), (0, .ref (wB ω + 1)), (1, .int x1), (2, .int x2), (3, .int x3), (4, .int x4)]) hx hb dX11_draughty_59 hl (by decide) rfl (fun ls hl => ?_)
    refine lv_iload hx hb dX11_draughty_61 (lv_at hl 0 rfl) ?_
    refine lv_iload_n hx hb dX11_draughty_63 rfl (lv_at hl 4 rfl) ?_
    refine lv_icmp_le (tgt := 73) hx hb dX11_draughty_64 (by decide) (fun hc => ?_) (fun hc => ?_)
    · have h := ite_t hc h
      refine lv_iinc (v := x4 + 1) (lv' := [(4, .int (x4 + 1)), (5, .int y6), (0, .ref (wB ω + 1)), (1, .int x1), (2, .int x2), (3, .int x3)]) hx hb dX11_draughty_73 hl (k := 5) rfl rfl (by decide) rfl (fun ls hl => ?_)
      refine lv_goto (tgt := 20) hx hb dX11_draughty_76 (by decide) ?_
      exact hrec _ _ _ _ H locs ls hH hS (lv_sub hl [2, 3, 4, 5, 0] rfl) h
    · have h := ite_f hc h
      refine lv_iload hx hb dX11_draughty_67 (lv_at hl 0 rfl) ?_
      refine lv_istore_n (lv' := [(3, .int y6), (5, .int y6), (0, .ref (wB ω + 1)), (1, .int x1), (2, .int x2), (4, .int x4)]) hx hb dX11_draughty_69 rfl hl (by decide) rfl (fun ls hl => ?_)
      refine lv_iload hx hb dX11_draughty_70 (lv_at hl 5 rfl) ?_
      refine lv_istore_n (lv' := [(2, .int x4), (3, .int y6), (5, .int y6), (0, .ref (wB ω + 1)), (1, .int x1), (4, .int x4)]) hx hb dX11_draughty_72 rfl hl (by decide) rfl (fun ls hl => ?_)
      refine lv_iinc (v := x4 + 1) (lv' := [(4, .int (x4 + 1)), (2, .int x4), (3, .int y6), (5, .int y6), (0, .ref (wB ω + 1)), (1, .int x1)]) hx hb dX11_draughty_73 hl (k := 5) rfl rfl (by decide) rfl (fun ls hl => ?_)
      refine lv_goto (tgt := 20) hx hb dX11_draughty_76 (by decide) ?_
      exact hrec _ _ _ _ H locs ls hH hS (lv_sub hl [4, 5, 1, 2, 0] rfl) h
theorem wX11_draughty_l20 (hW : FWC ω) (C : Cx ω p s m args c cX11_draughty 6 RX11) (hr : meth.sig.returnType = some .int) (hk : meth.locks = false) {rr : Int32} {μo : Mem} {x1 : Int32} : ∀ (n : Nat) (x2 : Int32) (x3 : Int32) (x4 : Int32) (μ : Mem) (H : Heap) (locs : List Loc) (ls : Array Slot), Hd ω μ H → FS ω s H locs → lv_has ls 6 [(0, .ref (wB ω + 1)), (1, .int x1), (2, .int x2), (3, .int x3), (4, .int x4)] → fX11_draughty_l20 x1 n x2 x3 x4 μ = some (rr, μo) → W p l e (rmd 4) s m args below meth c H locs 0 0 (MQ below (QR ω (some (.int rr)) μo) args s 0 0 (wA ω)) (F0 m 20 ls []) := by
  intro n
  induction n with
  | zero => intro x2 x3 x4 μ H locs ls hH hS hl h; cases h
  | succ n ih => intro x2 x3 x4 μ H locs ls hH hS hl h; exact wX11_draughty_s20 hW C hr hk ih hH hS hl h
set_option maxHeartbeats 4000000 in
set_option maxRecDepth 100000 in
theorem wX11_draughty_b11 (hW : FWC ω) (C : Cx ω p s m args c cX11_draughty 6 RX11) (hr : meth.sig.returnType = some .int) (hk : meth.locks = false) {rr : Int32} {μo : Mem} {x1 : Int32} {μ : Mem} {H : Heap} {locs : List Loc} {ls : Array Slot} (hH : Hd ω μ H) (hS : FS ω s H locs) (hl : lv_has ls 6 [(0, .ref (wB ω + 1)), (1, .int x1)]) (h : fX11_draughty_b11 x1 μ = some (rr, μo)) : W p l e (rmd 4) s m args below meth c H locs 0 0 (MQ below (QR ω (some (.int rr)) μo) args s 0 0 (wA ω)) (F0 m 11 ls []) := by
  have hx := C.1
  have hb := C.2.1
  unfold fX11_draughty_b11 at h
  refine lv_bipush (v := (-2)) hx hb dX11_draughty_11 (by decide) ?_
  refine lv_istore_n (lv' := [(2, .int (-2)), (0, .ref (wB ω + 1)), (1, .int x1)]) hx hb dX11_draughty_13 rfl hl (by decide) rfl (fun ls hl => ?_)
  refine lv_bipush (v := (-2)) hx hb dX11_draughty_14 (by decide) ?_
  refine lv_istore_n (lv' := [(3, .int (-2)), (2, .int (-2)), (0, .ref (wB ω + 1)), (1, .int x1)]) hx hb dX11_draughty_16 rfl hl (by decide) rfl (fun ls hl => ?_)
  refine lv_iconst (v := 0) hx hb dX11_draughty_17 (by decide) ?_
  refine lv_istore (lv' := [(4, .int 0), (3, .int (-2)), (2, .int (-2)), (0, .ref (wB ω + 1)), (1, .int x1)]) hx hb dX11_draughty_18 hl (by decide) rfl (fun ls hl => ?_)
  exact wX11_draughty_l20 hW C hr hk FU _ _ _ _ H locs ls hH hS (lv_sub hl [3, 4, 2, 1, 0] rfl) h
set_option maxHeartbeats 4000000 in
set_option maxRecDepth 100000 in
theorem wX11_draughty_e (hW : FWC ω) (C : Cx ω p s m args c cX11_draughty 6 RX11) (hr : meth.sig.returnType = some .int) (hk : meth.locks = false) {rr : Int32} {μo : Mem} {x1 : Int32} {μ : Mem} {H : Heap} {locs : List Loc} {ls : Array Slot} (hH : Hd ω μ H) (hS : FS ω s H locs) (hl : lv_has ls 6 [(0, .ref (wB ω + 1)), (1, .int x1)]) (h : fX11_draughty x1 μ = some (rr, μo)) : W p l e (rmd 4) s m args below meth c H locs 0 0 (MQ below (QR ω (some (.int rr)) μo) args s 0 0 (wA ω)) (F0 m 0 ls []) := by
  have hx := C.1
  have hb := C.2.1
  unfold fX11_draughty at h
  refine lv_iload_n hx hb dX11_draughty_0 rfl (lv_at hl 1 rfl) ?_
  refine lv_if_eq (tgt := 11) hx hb dX11_draughty_1 (by decide) (fun hc => ?_) (fun hc => ?_)
  · have h := ite_t hc h
    exact wX11_draughty_b11 hW C hr hk hH hS hl h
  · have h := ite_f hc h
    refine lv_iload_n hx hb dX11_draughty_4 rfl (lv_at hl 1 rfl) ?_
    refine lv_iconst (v := 1) hx hb dX11_draughty_5 (by decide) ?_
    refine lv_icmp_eq (tgt := 11) hx hb dX11_draughty_6 (by decide) (fun hc => ?_) (fun hc => ?_)
    · have h := ite_t hc h
      exact wX11_draughty_b11 hW C hr hk hH hS hl h
    · have h := ite_f hc h
      refine lv_iconst (v := (-1)) hx hb dX11_draughty_9 (by decide) ?_
      exact h_iret C hr hk hH hS rfl (by cases h; rfl) dX11_draughty_10
theorem c_X11_draughty {l : Launch} {ω : WW} {x1 : Int32} (hW : FWC ω) {μ : Mem} {rr : Int32} {μo : Mem} (h : fX11_draughty x1 μ = some (rr, μo)) : Con l yX11_draughty cX11_draughty 6 (some .int) 4 ω [.ref (wB ω + 1), .int x1] μ (some (.int rr)) μo :=
  con_of (by decide) (Nat.le_of_ble_eq_true rfl) (fun p e s m args below meth c ls C hr hk hl hH hS => wX11_draughty_e hW C hr hk hH hS (lv_sub hl [0, 1] rfl) h)
set_option maxHeartbeats 4000000 in
set_option maxRecDepth 100000 in
theorem wX11_enough_s4 (hW : FWC ω) (C : Cx ω p s m args c cX11_enough 4 RX11) (hr : meth.sig.returnType = some .int) (hk : meth.locks = false) {rr : Int32} {μo : Mem} {x1 : Int32} {x2 : Int32} {rec : Int32 → Int32 → Mem → Option (Int32 × Mem)} (hrec : ∀ (z1 : Int32) (z2 : Int32) (ν : Mem) (H : Heap) (locs : List Loc) (ls : Array Slot), Hd ω ν H → FS ω s H locs → lv_has ls 4 [(0, .ref (wB ω + 1)), (1, .int z1), (2, .int z2)] → rec z1 z2 ν = some (rr, μo) → W p l e (rmd 6) s m args below meth c H locs 0 0 (MQ below (QR ω (some (.int rr)) μo) args s 0 0 (wA ω)) (F0 m 4 ls [])) {μ : Mem} {H : Heap} {locs : List Loc} {ls : Array Slot} (hH : Hd ω μ H) (hS : FS ω s H locs) (hl : lv_has ls 4 [(0, .ref (wB ω + 1)), (1, .int x1), (2, .int x2)]) (h : fX11_enough_s4 rec x1 x2 μ = some (rr, μo)) : W p l e (rmd 6) s m args below meth c H locs 0 0 (MQ below (QR ω (some (.int rr)) μo) args s 0 0 (wA ω)) (F0 m 4 ls []) := by
  have hx := C.1
  have hb := C.2.1
  unfold fX11_enough_s4 at h
  refine lv_iload_n hx hb dX11_enough_4 rfl (lv_at hl 2 rfl) ?_
  refine lv_aload_n hx hb dX11_enough_5 rfl (lv_at hl 0 rfl) ?_
  refine g_476 (i := 17) C hH (jC_1 hW) rfl dX11_enough_6 ?_
  refine g_265 C hH (jC_17 hW) dX11_enough_9 ?_
  refine lv_icmp_ge (tgt := 43) hx hb dX11_enough_12 (by decide) (fun hc => ?_) (fun hc => ?_)
  · have h := ite_t hc h
    refine lv_iload_n hx hb dX11_enough_43 rfl (lv_at hl 1 rfl) ?_
    exact h_iret C hr hk hH hS rfl (by cases h; rfl) dX11_enough_44
  · have h := ite_f hc h
    refine lv_aload_n hx hb dX11_enough_15 rfl (lv_at hl 0 rfl) ?_
    refine lv_aload_n hx hb dX11_enough_16 rfl (lv_at hl 0 rfl) ?_
    refine g_477 (i := 24) C hH (jC_1 hW) rfl dX11_enough_17 ?_
    refine lv_iload_n hx hb dX11_enough_20 rfl (lv_at hl 2 rfl) ?_
    obtain ⟨r3, μ2, e1, h⟩ := b2_e h
    refine cVi (as := [.ref (wB ω + 24), .int x2]) (rest := []) (c_X11_coalsNeeded hW (sC_24 hW) e1) C hl.1 hH hS rfl (jC_1 hW) rfl wd_19 wd_954 mw_X11_coalsNeeded wd_952 rfl (rm_ok (by decide) (by decide)) (Nat.le_of_ble_eq_true rfl) ⟨Nat.zero_le _, Nat.zero_le _⟩ (by decide) dX11_enough_21 (fun H locs hH hS => ?_)
    refine lv_istore_n (lv' := [(3, .int r3), (0, .ref (wB ω + 1)), (1, .int x1), (2, .int x2)]) hx hb dX11_enough_24 rfl hl (by decide) rfl (fun ls hl => ?_)
    refine lv_iload_n hx hb dX11_enough_25 rfl (lv_at hl 0 rfl) ?_
    refine lv_iconst (v := (-1)) hx hb dX11_enough_26 (by decide) ?_
    refine lv_icmp_ne (tgt := 33) hx hb dX11_enough_27 (by decide) (fun hc => ?_) (fun hc => ?_)
    · have h := ite_f hc h
      refine lv_iload_n hx hb dX11_enough_33 rfl (lv_at hl 2 rfl) ?_
      refine lv_iload_n hx hb dX11_enough_34 rfl (lv_at hl 0 rfl) ?_
      refine lv_iadd hx hb dX11_enough_35 ?_
      obtain ⟨y4, e5, h⟩ := bd_e h
      refine h_topi e5 ?_
      refine lv_istore_n (lv' := [(1, .int y4), (3, .int r3), (0, .ref (wB ω + 1)), (2, .int x2)]) hx hb dX11_enough_36 rfl hl (by decide) rfl (fun ls hl => ?_)
      refine lv_iinc (v := x2 + 1) (lv' := [(2, .int (x2 + 1)), (1, .int y4), (3, .int r3), (0, .ref (wB ω + 1))]) hx hb dX11_enough_37 hl (k := 3) rfl rfl (by decide) rfl (fun ls hl => ?_)
      refine lv_goto (tgt := 4) hx hb dX11_enough_40 (by decide) ?_
      exact hrec _ _ _ H locs ls hH hS (lv_sub hl [3, 1, 0] rfl) h
    · have h := ite_t hc h
      refine lv_bipush (v := (-2)) hx hb dX11_enough_30 (by decide) ?_
      exact h_iret C hr hk hH hS rfl (by cases h; rfl) dX11_enough_32
theorem wX11_enough_l4 (hW : FWC ω) (C : Cx ω p s m args c cX11_enough 4 RX11) (hr : meth.sig.returnType = some .int) (hk : meth.locks = false) {rr : Int32} {μo : Mem} : ∀ (n : Nat) (x1 : Int32) (x2 : Int32) (μ : Mem) (H : Heap) (locs : List Loc) (ls : Array Slot), Hd ω μ H → FS ω s H locs → lv_has ls 4 [(0, .ref (wB ω + 1)), (1, .int x1), (2, .int x2)] → fX11_enough_l4 n x1 x2 μ = some (rr, μo) → W p l e (rmd 6) s m args below meth c H locs 0 0 (MQ below (QR ω (some (.int rr)) μo) args s 0 0 (wA ω)) (F0 m 4 ls []) := by
  intro n
  induction n with
  | zero => intro x1 x2 μ H locs ls hH hS hl h; cases h
  | succ n ih => intro x1 x2 μ H locs ls hH hS hl h; exact wX11_enough_s4 hW C hr hk ih hH hS hl h
set_option maxHeartbeats 4000000 in
set_option maxRecDepth 100000 in
theorem wX11_enough_e (hW : FWC ω) (C : Cx ω p s m args c cX11_enough 4 RX11) (hr : meth.sig.returnType = some .int) (hk : meth.locks = false) {rr : Int32} {μo : Mem} {μ : Mem} {H : Heap} {locs : List Loc} {ls : Array Slot} (hH : Hd ω μ H) (hS : FS ω s H locs) (hl : lv_has ls 4 [(0, .ref (wB ω + 1))]) (h : fX11_enough μ = some (rr, μo)) : W p l e (rmd 6) s m args below meth c H locs 0 0 (MQ below (QR ω (some (.int rr)) μo) args s 0 0 (wA ω)) (F0 m 0 ls []) := by
  have hx := C.1
  have hb := C.2.1
  unfold fX11_enough at h
  refine lv_iconst (v := 0) hx hb dX11_enough_0 (by decide) ?_
  refine lv_istore_n (lv' := [(1, .int 0), (0, .ref (wB ω + 1))]) hx hb dX11_enough_1 rfl hl (by decide) rfl (fun ls hl => ?_)
  refine lv_iconst (v := 0) hx hb dX11_enough_2 (by decide) ?_
  refine lv_istore_n (lv' := [(2, .int 0), (1, .int 0), (0, .ref (wB ω + 1))]) hx hb dX11_enough_3 rfl hl (by decide) rfl (fun ls hl => ?_)
  exact wX11_enough_l4 hW C hr hk FU _ _ _ H locs ls hH hS (lv_sub hl [2, 1, 0] rfl) h
theorem c_X11_enough {l : Launch} {ω : WW} (hW : FWC ω) {μ : Mem} {rr : Int32} {μo : Mem} (h : fX11_enough μ = some (rr, μo)) : Con l yX11_enough cX11_enough 4 (some .int) 6 ω [.ref (wB ω + 1)] μ (some (.int rr)) μo :=
  con_of (by decide) (Nat.le_of_ble_eq_true rfl) (fun p e s m args below meth c ls C hr hk hl hH hS => wX11_enough_e hW C hr hk hH hS (lv_sub hl [0] rfl) h)
set_option maxHeartbeats 4000000 in
set_option maxRecDepth 100000 in
theorem wX11_far_e (hW : FWC ω) (C : Cx ω p s m args c cX11_far 3 RX11) (hr : meth.sig.returnType = some .int) (hk : meth.locks = false) {rr : Int32} {μ : Mem} {x1 : Int32} {x2 : Int32} {H : Heap} {locs : List Loc} {ls : Array Slot} (hH : Hd ω μ H) (hS : FS ω s H locs) (hl : lv_has ls 3 [(0, .ref (wB ω + 1)), (1, .int x1), (2, .int x2)]) (h : fX11_far x1 x2 μ = some rr) : W p l e (rmd 4) s m args below meth c H locs 0 0 (MQ below (QR ω (some (.int rr)) μ) args s 0 0 (wA ω)) (F0 m 0 ls []) := by
  have hx := C.1
  have hb := C.2.1
  unfold fX11_far at h
  refine lv_aload_n hx hb dX11_far_0 rfl (lv_at hl 0 rfl) ?_
  refine lv_iload_n hx hb dX11_far_1 rfl (lv_at hl 1 rfl) ?_
  obtain ⟨r2, e1, h⟩ := b1_e h
  refine cVi (as := [.int x1]) (rest := []) (c_X11_isHouse hW e1) C hl.1 hH hS rfl (jC_1 hW) rfl wd_15 wd_741 mw_X11_isHouse wd_739 rfl (rm_ok (by decide) (by decide)) (Nat.le_of_ble_eq_true rfl) ⟨Nat.zero_le _, Nat.zero_le _⟩ (by decide) dX11_far_2 (fun H locs hH hS => ?_)
  refine lv_if_eq (tgt := 28) hx hb dX11_far_5 (by decide) (fun hc => ?_) (fun hc => ?_)
  · have h := ite_t hc h
    refine lv_iconst (v := (-1)) hx hb dX11_far_28 (by decide) ?_
    exact h_iret C hr hk hH hS rfl (by cases h; rfl) dX11_far_29
  · have h := ite_f hc h
    refine lv_aload_n hx hb dX11_far_8 rfl (lv_at hl 0 rfl) ?_
    refine lv_iload_n hx hb dX11_far_9 rfl (lv_at hl 2 rfl) ?_
    obtain ⟨r4, e3, h⟩ := b1_e h
    refine cVi (as := [.int x2]) (rest := []) (c_X11_isHouse hW e3) C hl.1 hH hS rfl (jC_1 hW) rfl wd_15 wd_741 mw_X11_isHouse wd_739 rfl (rm_ok (by decide) (by decide)) (Nat.le_of_ble_eq_true rfl) ⟨Nat.zero_le _, Nat.zero_le _⟩ (by decide) dX11_far_10 (fun H locs hH hS => ?_)
    refine lv_if_eq (tgt := 28) hx hb dX11_far_13 (by decide) (fun hc => ?_) (fun hc => ?_)
    · have h := ite_t hc h
      refine lv_iconst (v := (-1)) hx hb dX11_far_28 (by decide) ?_
      exact h_iret C hr hk hH hS rfl (by cases h; rfl) dX11_far_29
    · have h := ite_f hc h
      refine lv_aload_n hx hb dX11_far_16 rfl (lv_at hl 0 rfl) ?_
      refine g_476 (i := 17) C hH (jC_1 hW) rfl dX11_far_17 ?_
      refine lv_iload_n hx hb dX11_far_20 rfl (lv_at hl 1 rfl) ?_
      refine lv_iload_n hx hb dX11_far_21 rfl (lv_at hl 2 rfl) ?_
      obtain ⟨r6, e5, h⟩ := b1_e h
      refine cVi (as := [.int x1, .int x2]) (rest := []) (c_X3_distance (qC_17 hW) e5) C hl.1 hH hS rfl (jC_17 hW) rfl wd_1029 wd_1028 mw_X3_distance wd_1027 rfl (rm_ok (by decide) (by decide)) (Nat.le_of_ble_eq_true rfl) ⟨Nat.zero_le _, Nat.zero_le _⟩ (by decide) dX11_far_22 (fun H locs hH hS => ?_)
      refine lv_goto (tgt := 29) hx hb dX11_far_25 (by decide) ?_
      exact h_iret C hr hk hH hS rfl (by cases h; rfl) dX11_far_29
theorem c_X11_far {l : Launch} {ω : WW} {x1 : Int32} {x2 : Int32} (hW : FWC ω) {μ : Mem} {rr : Int32} (h : fX11_far x1 x2 μ = some rr) : Con l yX11_far cX11_far 3 (some .int) 4 ω [.ref (wB ω + 1), .int x1, .int x2] μ (some (.int rr)) μ :=
  con_of (by decide) (Nat.le_of_ble_eq_true rfl) (fun p e s m args below meth c ls C hr hk hl hH hS => wX11_far_e hW C hr hk hH hS (lv_sub hl [0, 1, 2] rfl) h)
set_option maxHeartbeats 4000000 in
set_option maxRecDepth 100000 in
theorem wX11_putWord_s3 (hW : FWC ω) (C : Cx ω p s m args c cX11_putWord 3 RX11) (hr : meth.sig.returnType = none) (hk : meth.locks = false) {μo : Mem} {x1 : Int32} {x2 : Int32} {rec : Int32 → Mem → Option Mem} (hrec : ∀ (z2 : Int32) (ν : Mem) (H : Heap) (locs : List Loc) (ls : Array Slot), Hd ω ν H → FS ω s H locs → lv_has ls 3 [(0, .ref (wB ω + 1)), (1, .int x1), (2, .int z2)] → rec z2 ν = some μo → W p l e (rmd 1) s m args below meth c H locs 0 0 (MQ below (QR ω none μo) args s 0 0 (wA ω)) (F0 m 3 ls [])) {μ : Mem} {H : Heap} {locs : List Loc} {ls : Array Slot} (hH : Hd ω μ H) (hS : FS ω s H locs) (hl : lv_has ls 3 [(0, .ref (wB ω + 1)), (1, .int x1), (2, .int x2)]) (h : fX11_putWord_s3 rec x1 x2 μ = some μo) : W p l e (rmd 1) s m args below meth c H locs 0 0 (MQ below (QR ω none μo) args s 0 0 (wA ω)) (F0 m 3 ls []) := by
  have hx := C.1
  have hb := C.2.1
  unfold fX11_putWord_s3 at h
  refine lv_iload_n hx hb dX11_putWord_3 rfl (lv_at hl 2 rfl) ?_
  refine lv_if_lt (tgt := 46) hx hb dX11_putWord_4 (by decide) (fun hc => ?_) (fun hc => ?_)
  · have h := ite_t hc h
    exact h_vret C hr hk hH hS (by cases h; rfl) dX11_putWord_46
  · have h := ite_f hc h
    refine lv_aload_n hx hb dX11_putWord_7 rfl (lv_at hl 0 rfl) ?_
    refine g_489 C hH (jC_1 hW) dX11_putWord_8 ?_
    refine lv_sipush (v := 2000) hx hb dX11_putWord_11 (by decide) ?_
    refine lv_icmp_ge (tgt := 46) hx hb dX11_putWord_14 (by decide) (fun hc => ?_) (fun hc => ?_)
    · have h := ite_t hc h
      exact h_vret C hr hk hH hS (by cases h; rfl) dX11_putWord_46
    · have h := ite_f hc h
      refine lv_aload_n hx hb dX11_putWord_17 rfl (lv_at hl 0 rfl) ?_
      refine g_474 (i := 2) C hH (jC_1 hW) rfl dX11_putWord_18 ?_
      refine lv_aload_n hx hb dX11_putWord_21 rfl (lv_at hl 0 rfl) ?_
      refine g_489 C hH (jC_1 hW) dX11_putWord_22 ?_
      refine lv_iload_n hx hb dX11_putWord_25 rfl (lv_at hl 1 rfl) ?_
      refine lv_iload_n hx hb dX11_putWord_26 rfl (lv_at hl 2 rfl) ?_
      refine lv_iushr (v := ushr x1 x2) hx hb dX11_putWord_27 rfl ?_
      refine lv_i2b (v := (ushr x1 x2).toInt8.toInt32) hx hb dX11_putWord_28 rfl ?_
      obtain ⟨b1, h⟩ := gd_e h
      obtain ⟨μ2, e3, h⟩ := bd_e h
      refine h_bast C hH hS (jC_2 hW).1 (jC_2 hW).2.1 b1 dX11_putWord_29 (fun H locs hH hS => ?_)
      have hH := Hd.to e3 hH
      refine lv_aload_n hx hb dX11_putWord_30 rfl (lv_at hl 0 rfl) ?_
      refine lv_dup hx hb dX11_putWord_31 rfl ?_
      refine g_489 C hH (jC_1 hW) dX11_putWord_32 ?_
      refine lv_iconst (v := 1) hx hb dX11_putWord_35 (by decide) ?_
      refine lv_iadd hx hb dX11_putWord_36 ?_
      obtain ⟨μ4, e5, h⟩ := bd_e h
      refine p_489 C hH hS (jC_1 hW) dX11_putWord_37 (fun H locs hH hS => ?_)
      have hH := Hd.to e5 hH
      refine lv_iinc (v := x2 + (-8)) (lv' := [(2, .int (x2 + (-8))), (0, .ref (wB ω + 1)), (1, .int x1)]) hx hb dX11_putWord_40 hl (k := 2) rfl rfl (by decide) rfl (fun ls hl => ?_)
      refine lv_goto (tgt := 3) hx hb dX11_putWord_43 (by decide) ?_
      exact hrec _ _ H locs ls hH hS (lv_sub hl [1, 2, 0] rfl) h
theorem wX11_putWord_l3 (hW : FWC ω) (C : Cx ω p s m args c cX11_putWord 3 RX11) (hr : meth.sig.returnType = none) (hk : meth.locks = false) {μo : Mem} {x1 : Int32} : ∀ (n : Nat) (x2 : Int32) (μ : Mem) (H : Heap) (locs : List Loc) (ls : Array Slot), Hd ω μ H → FS ω s H locs → lv_has ls 3 [(0, .ref (wB ω + 1)), (1, .int x1), (2, .int x2)] → fX11_putWord_l3 x1 n x2 μ = some μo → W p l e (rmd 1) s m args below meth c H locs 0 0 (MQ below (QR ω none μo) args s 0 0 (wA ω)) (F0 m 3 ls []) := by
  intro n
  induction n with
  | zero => intro x2 μ H locs ls hH hS hl h; cases h
  | succ n ih => intro x2 μ H locs ls hH hS hl h; exact wX11_putWord_s3 hW C hr hk ih hH hS hl h
set_option maxHeartbeats 4000000 in
set_option maxRecDepth 100000 in
theorem wX11_putWord_e (hW : FWC ω) (C : Cx ω p s m args c cX11_putWord 3 RX11) (hr : meth.sig.returnType = none) (hk : meth.locks = false) {μo : Mem} {x1 : Int32} {μ : Mem} {H : Heap} {locs : List Loc} {ls : Array Slot} (hH : Hd ω μ H) (hS : FS ω s H locs) (hl : lv_has ls 3 [(0, .ref (wB ω + 1)), (1, .int x1)]) (h : fX11_putWord x1 μ = some μo) : W p l e (rmd 1) s m args below meth c H locs 0 0 (MQ below (QR ω none μo) args s 0 0 (wA ω)) (F0 m 0 ls []) := by
  have hx := C.1
  have hb := C.2.1
  unfold fX11_putWord at h
  refine lv_bipush (v := 24) hx hb dX11_putWord_0 (by decide) ?_
  refine lv_istore_n (lv' := [(2, .int 24), (0, .ref (wB ω + 1)), (1, .int x1)]) hx hb dX11_putWord_2 rfl hl (by decide) rfl (fun ls hl => ?_)
  exact wX11_putWord_l3 hW C hr hk FU _ _ H locs ls hH hS (lv_sub hl [1, 2, 0] rfl) h
theorem c_X11_putWord {l : Launch} {ω : WW} {x1 : Int32} (hW : FWC ω) {μ : Mem} {μo : Mem} (h : fX11_putWord x1 μ = some μo) : Con l yX11_putWord cX11_putWord 3 none 1 ω [.ref (wB ω + 1), .int x1] μ none μo :=
  con_of (by decide) (Nat.le_of_ble_eq_true rfl) (fun p e s m args below meth c ls C hr hk hl hH hS => wX11_putWord_e hW C hr hk hH hS (lv_sub hl [0, 1] rfl) h)
set_option maxHeartbeats 4000000 in
set_option maxRecDepth 100000 in
theorem wX11_feed_e (hW : FWC ω) (C : Cx ω p s m args c cX11_feed 6 RX11) (hr : meth.sig.returnType = some .int) (hk : meth.locks = false) {rr : Int32} {μo : Mem} {x1 : Int32} {x2 : Int32} {x3 : Int32} {x4 : Int32} {x5 : Int32} {μ : Mem} {H : Heap} {locs : List Loc} {ls : Array Slot} (hH : Hd ω μ H) (hS : FS ω s H locs) (hl : lv_has ls 6 [(0, .ref (wB ω + 1)), (1, .int x1), (2, .int x2), (3, .int x3), (4, .int x4), (5, .int x5)]) (h : fX11_feed x1 x2 x3 x4 x5 μ = some (rr, μo)) : W p l e (rmd 2) s m args below meth c H locs 0 0 (MQ below (QR ω (some (.int rr)) μo) args s 0 0 (wA ω)) (F0 m 0 ls []) := by
  have hx := C.1
  have hb := C.2.1
  unfold fX11_feed at h
  refine lv_aload_n hx hb dX11_feed_0 rfl (lv_at hl 0 rfl) ?_
  refine g_489 C hH (jC_1 hW) dX11_feed_1 ?_
  refine lv_bipush (v := 20) hx hb dX11_feed_4 (by decide) ?_
  refine lv_iadd hx hb dX11_feed_6 ?_
  refine lv_sipush (v := 2000) hx hb dX11_feed_7 (by decide) ?_
  refine lv_icmp_le (tgt := 15) hx hb dX11_feed_10 (by decide) (fun hc => ?_) (fun hc => ?_)
  · have h := ite_t hc h
    refine lv_aload_n hx hb dX11_feed_15 rfl (lv_at hl 0 rfl) ?_
    refine lv_iload_n hx hb dX11_feed_16 rfl (lv_at hl 1 rfl) ?_
    obtain ⟨μ2, e1, h⟩ := b1_e h
    refine cVv (as := [.int x1]) (rest := []) (c_X11_putWord hW e1) C hl.1 hH hS rfl (jC_1 hW) rfl wd_0 wd_532 mw_X11_putWord wd_530 rfl (rm_ok (by decide) (by decide)) (Nat.le_of_ble_eq_true rfl) ⟨Nat.zero_le _, Nat.zero_le _⟩ (by decide) dX11_feed_17 (fun H locs hH hS => ?_)
    refine lv_aload_n hx hb dX11_feed_20 rfl (lv_at hl 0 rfl) ?_
    refine lv_iload_n hx hb dX11_feed_21 rfl (lv_at hl 2 rfl) ?_
    obtain ⟨μ4, e3, h⟩ := b1_e h
    refine cVv (as := [.int x2]) (rest := []) (c_X11_putWord hW e3) C hl.1 hH hS rfl (jC_1 hW) rfl wd_0 wd_532 mw_X11_putWord wd_530 rfl (rm_ok (by decide) (by decide)) (Nat.le_of_ble_eq_true rfl) ⟨Nat.zero_le _, Nat.zero_le _⟩ (by decide) dX11_feed_22 (fun H locs hH hS => ?_)
    refine lv_aload_n hx hb dX11_feed_25 rfl (lv_at hl 0 rfl) ?_
    refine lv_iload_n hx hb dX11_feed_26 rfl (lv_at hl 3 rfl) ?_
    obtain ⟨μ6, e5, h⟩ := b1_e h
    refine cVv (as := [.int x3]) (rest := []) (c_X11_putWord hW e5) C hl.1 hH hS rfl (jC_1 hW) rfl wd_0 wd_532 mw_X11_putWord wd_530 rfl (rm_ok (by decide) (by decide)) (Nat.le_of_ble_eq_true rfl) ⟨Nat.zero_le _, Nat.zero_le _⟩ (by decide) dX11_feed_27 (fun H locs hH hS => ?_)
    refine lv_aload_n hx hb dX11_feed_30 rfl (lv_at hl 0 rfl) ?_
    refine lv_iload hx hb dX11_feed_31 (lv_at hl 4 rfl) ?_
    obtain ⟨μ8, e7, h⟩ := b1_e h
    refine cVv (as := [.int x4]) (rest := []) (c_X11_putWord hW e7) C hl.1 hH hS rfl (jC_1 hW) rfl wd_0 wd_532 mw_X11_putWord wd_530 rfl (rm_ok (by decide) (by decide)) (Nat.le_of_ble_eq_true rfl) ⟨Nat.zero_le _, Nat.zero_le _⟩ (by decide) dX11_feed_33 (fun H locs hH hS => ?_)
    refine lv_aload_n hx hb dX11_feed_36 rfl (lv_at hl 0 rfl) ?_
    refine lv_iload hx hb dX11_feed_37 (lv_at hl 5 rfl) ?_
    obtain ⟨μ10, e9, h⟩ := b1_e h
    refine cVv (as := [.int x5]) (rest := []) (c_X11_putWord hW e9) C hl.1 hH hS rfl (jC_1 hW) rfl wd_0 wd_532 mw_X11_putWord wd_530 rfl (rm_ok (by decide) (by decide)) (Nat.le_of_ble_eq_true rfl) ⟨Nat.zero_le _, Nat.zero_le _⟩ (by decide) dX11_feed_39 (fun H locs hH hS => ?_)
    refine lv_aload_n hx hb dX11_feed_42 rfl (lv_at hl 0 rfl) ?_
    refine g_489 C hH (jC_1 hW) dX11_feed_43 ?_
    exact h_iret C hr hk hH hS rfl (by cases h; rfl) dX11_feed_46
  · have h := ite_f hc h
    refine lv_iconst (v := (-1)) hx hb dX11_feed_13 (by decide) ?_
    exact h_iret C hr hk hH hS rfl (by cases h; rfl) dX11_feed_14
theorem c_X11_feed {l : Launch} {ω : WW} {x1 : Int32} {x2 : Int32} {x3 : Int32} {x4 : Int32} {x5 : Int32} (hW : FWC ω) {μ : Mem} {rr : Int32} {μo : Mem} (h : fX11_feed x1 x2 x3 x4 x5 μ = some (rr, μo)) : Con l yX11_feed cX11_feed 6 (some .int) 2 ω [.ref (wB ω + 1), .int x1, .int x2, .int x3, .int x4, .int x5] μ (some (.int rr)) μo :=
  con_of (by decide) (Nat.le_of_ble_eq_true rfl) (fun p e s m args below meth c ls C hr hk hl hH hS => wX11_feed_e hW C hr hk hH hS (lv_sub hl [0, 1, 2, 3, 4, 5] rfl) h)
set_option maxHeartbeats 4000000 in
set_option maxRecDepth 100000 in
theorem wX11_lossWith_e (hW : FWC ω) (C : Cx ω p s m args c cX11_lossWith 3 RX11) (hr : meth.sig.returnType = some .int) (hk : meth.locks = false) {rr : Int32} {μo : Mem} {x1 : Int32} {x2 : Int32} {μ : Mem} {H : Heap} {locs : List Loc} {ls : Array Slot} (hH : Hd ω μ H) (hS : FS ω s H locs) (hl : lv_has ls 3 [(0, .ref (wB ω + 1)), (1, .int x1), (2, .int x2)]) (h : fX11_lossWith x1 x2 μ = some (rr, μo)) : W p l e (rmd 5) s m args below meth c H locs 0 0 (MQ below (QR ω (some (.int rr)) μo) args s 0 0 (wA ω)) (F0 m 0 ls []) := by
  have hx := C.1
  have hb := C.2.1
  unfold fX11_lossWith at h
  refine lv_aload_n hx hb dX11_lossWith_0 rfl (lv_at hl 0 rfl) ?_
  refine g_478 (i := 26) C hH (jC_1 hW) rfl dX11_lossWith_1 ?_
  refine lv_aload_n hx hb dX11_lossWith_4 rfl (lv_at hl 0 rfl) ?_
  refine g_477 (i := 24) C hH (jC_1 hW) rfl dX11_lossWith_5 ?_
  obtain ⟨μ2, e1, h⟩ := b1_e h
  refine cVv (as := [.ref (wB ω + 24)]) (rest := []) (c_X7_copyFrom (sC_26 hW) (sC_24 hW) e1) C hl.1 hH hS rfl (jC_26 hW) rfl wd_829 wd_828 mw_X7_copyFrom wd_919 rfl (rm_ok (by decide) (by decide)) (Nat.le_of_ble_eq_true rfl) ⟨Nat.zero_le _, Nat.zero_le _⟩ (by decide) dX11_lossWith_8 (fun H locs hH hS => ?_)
  refine lv_aload_n hx hb dX11_lossWith_11 rfl (lv_at hl 0 rfl) ?_
  refine g_476 (i := 17) C hH (jC_1 hW) rfl dX11_lossWith_12 ?_
  refine lv_aload_n hx hb dX11_lossWith_15 rfl (lv_at hl 0 rfl) ?_
  refine g_478 (i := 26) C hH (jC_1 hW) rfl dX11_lossWith_16 ?_
  refine lv_iload_n hx hb dX11_lossWith_19 rfl (lv_at hl 1 rfl) ?_
  refine lv_iload_n hx hb dX11_lossWith_20 rfl (lv_at hl 2 rfl) ?_
  obtain ⟨μ4, e3, h⟩ := b1_e h
  refine cVv (as := [.ref (wB ω + 26), .int x1, .int x2]) (rest := []) (c_X3_burnIn (qC_17 hW) (sC_26 hW) e3) C hl.1 hH hS rfl (jC_17 hW) rfl wd_835 wd_834 mw_X3_burnIn wd_833 rfl (rm_ok (by decide) (by decide)) (Nat.le_of_ble_eq_true rfl) ⟨Nat.zero_le _, Nat.zero_le _⟩ (by decide) dX11_lossWith_21 (fun H locs hH hS => ?_)
  refine lv_aload_n hx hb dX11_lossWith_24 rfl (lv_at hl 0 rfl) ?_
  refine g_476 (i := 17) C hH (jC_1 hW) rfl dX11_lossWith_25 ?_
  refine lv_aload_n hx hb dX11_lossWith_28 rfl (lv_at hl 0 rfl) ?_
  refine g_478 (i := 26) C hH (jC_1 hW) rfl dX11_lossWith_29 ?_
  refine lv_iload_n hx hb dX11_lossWith_32 rfl (lv_at hl 1 rfl) ?_
  obtain ⟨r7, μ6, e5, h⟩ := b2_e h
  refine cVi (as := [.ref (wB ω + 26), .int x1]) (rest := []) (c_X3_fades (qC_17 hW) (sC_26 hW) e5) C hl.1 hH hS rfl (jC_17 hW) rfl wd_768 wd_767 mw_X3_fades wd_766 rfl (rm_ok (by decide) (by decide)) (Nat.le_of_ble_eq_true rfl) ⟨Nat.zero_le _, Nat.zero_le _⟩ (by decide) dX11_lossWith_33 (fun H locs hH hS => ?_)
  exact h_iret C hr hk hH hS rfl (by cases h; rfl) dX11_lossWith_36
theorem c_X11_lossWith {l : Launch} {ω : WW} {x1 : Int32} {x2 : Int32} (hW : FWC ω) {μ : Mem} {rr : Int32} {μo : Mem} (h : fX11_lossWith x1 x2 μ = some (rr, μo)) : Con l yX11_lossWith cX11_lossWith 3 (some .int) 5 ω [.ref (wB ω + 1), .int x1, .int x2] μ (some (.int rr)) μo :=
  con_of (by decide) (Nat.le_of_ble_eq_true rfl) (fun p e s m args below meth c ls C hr hk hl hH hS => wX11_lossWith_e hW C hr hk hH hS (lv_sub hl [0, 1, 2] rfl) h)
set_option maxHeartbeats 4000000 in
set_option maxRecDepth 100000 in
theorem wX11_savedByOne_e (hW : FWC ω) (C : Cx ω p s m args c cX11_savedByOne 2 RX11) (hr : meth.sig.returnType = some .int) (hk : meth.locks = false) {rr : Int32} {μo : Mem} {x1 : Int32} {μ : Mem} {H : Heap} {locs : List Loc} {ls : Array Slot} (hH : Hd ω μ H) (hS : FS ω s H locs) (hl : lv_has ls 2 [(0, .ref (wB ω + 1)), (1, .int x1)]) (h : fX11_savedByOne x1 μ = some (rr, μo)) : W p l e (rmd 6) s m args below meth c H locs 0 0 (MQ below (QR ω (some (.int rr)) μo) args s 0 0 (wA ω)) (F0 m 0 ls []) := by
  have hx := C.1
  have hb := C.2.1
  unfold fX11_savedByOne at h
  refine lv_aload_n hx hb dX11_savedByOne_0 rfl (lv_at hl 0 rfl) ?_
  refine g_476 (i := 17) C hH (jC_1 hW) rfl dX11_savedByOne_1 ?_
  refine lv_aload_n hx hb dX11_savedByOne_4 rfl (lv_at hl 0 rfl) ?_
  refine g_477 (i := 24) C hH (jC_1 hW) rfl dX11_savedByOne_5 ?_
  refine lv_iload_n hx hb dX11_savedByOne_8 rfl (lv_at hl 1 rfl) ?_
  obtain ⟨r3, μ2, e1, h⟩ := b2_e h
  refine cVi (as := [.ref (wB ω + 24), .int x1]) (rest := []) (c_X3_fades (qC_17 hW) (sC_24 hW) e1) C hl.1 hH hS rfl (jC_17 hW) rfl wd_768 wd_767 mw_X3_fades wd_766 rfl (rm_ok (by decide) (by decide)) (Nat.le_of_ble_eq_true rfl) ⟨Nat.zero_le _, Nat.zero_le _⟩ (by decide) dX11_savedByOne_9 (fun H locs hH hS => ?_)
  refine lv_aload_n hx hb dX11_savedByOne_12 rfl (lv_at hl 0 rfl) ?_
  refine lv_iload_n hx hb dX11_savedByOne_13 rfl (lv_at hl 1 rfl) ?_
  refine lv_iconst (v := 1) hx hb dX11_savedByOne_14 (by decide) ?_
  obtain ⟨r6, μ5, e4, h⟩ := b2_e h
  refine cVi (as := [.int x1, .int 1]) (rest := [.int r3]) (c_X11_lossWith hW e4) C hl.1 hH hS rfl (jC_1 hW) rfl wd_17 wd_917 mw_X11_lossWith wd_915 rfl (rm_ok (by decide) (by decide)) (Nat.le_of_ble_eq_true rfl) ⟨Nat.zero_le _, Nat.zero_le _⟩ (by decide) dX11_savedByOne_15 (fun H locs hH hS => ?_)
  refine lv_isub hx hb dX11_savedByOne_18 ?_
  exact h_iret C hr hk hH hS rfl (by cases h; rfl) dX11_savedByOne_19
theorem c_X11_savedByOne {l : Launch} {ω : WW} {x1 : Int32} (hW : FWC ω) {μ : Mem} {rr : Int32} {μo : Mem} (h : fX11_savedByOne x1 μ = some (rr, μo)) : Con l yX11_savedByOne cX11_savedByOne 2 (some .int) 6 ω [.ref (wB ω + 1), .int x1] μ (some (.int rr)) μo :=
  con_of (by decide) (Nat.le_of_ble_eq_true rfl) (fun p e s m args below meth c ls C hr hk hl hH hS => wX11_savedByOne_e hW C hr hk hH hS (lv_sub hl [0, 1] rfl) h)
set_option maxHeartbeats 4000000 in
set_option maxRecDepth 100000 in
theorem wX11_first_s9 (hW : FWC ω) (C : Cx ω p s m args c cX11_first 5 RX11) (hr : meth.sig.returnType = some .int) (hk : meth.locks = false) {rr : Int32} {μo : Mem} {x1 : Int32} {x2 : Int32} {x3 : Int32} {rec : Int32 → Int32 → Int32 → Mem → Option (Int32 × Mem)} (hrec : ∀ (z1 : Int32) (z2 : Int32) (z3 : Int32) (ν : Mem) (H : Heap) (locs : List Loc) (ls : Array Slot), Hd ω ν H → FS ω s H locs → lv_has ls 5 [(0, .ref (wB ω + 1)), (1, .int z1), (2, .int z2), (3, .int z3)] → rec z1 z2 z3 ν = some (rr, μo) → W p l e (rmd 7) s m args below meth c H locs 0 0 (MQ below (QR ω (some (.int rr)) μo) args s 0 0 (wA ω)) (F0 m 9 ls [])) {μ : Mem} {H : Heap} {locs : List Loc} {ls : Array Slot} (hH : Hd ω μ H) (hS : FS ω s H locs) (hl : lv_has ls 5 [(0, .ref (wB ω + 1)), (1, .int x1), (2, .int x2), (3, .int x3)]) (h : fX11_first_s9 rec x1 x2 x3 μ = some (rr, μo)) : W p l e (rmd 7) s m args below meth c H locs 0 0 (MQ below (QR ω (some (.int rr)) μo) args s 0 0 (wA ω)) (F0 m 9 ls []) := by
  have hx := C.1
  have hb := C.2.1
  unfold fX11_first_s9 at h
  refine lv_iload_n hx hb dX11_first_9 rfl (lv_at hl 3 rfl) ?_
  refine lv_aload_n hx hb dX11_first_10 rfl (lv_at hl 0 rfl) ?_
  refine g_476 (i := 17) C hH (jC_1 hW) rfl dX11_first_11 ?_
  refine g_265 C hH (jC_17 hW) dX11_first_14 ?_
  refine lv_icmp_ge (tgt := 44) hx hb dX11_first_17 (by decide) (fun hc => ?_) (fun hc => ?_)
  · have h := ite_t hc h
    refine lv_iload_n hx hb dX11_first_44 rfl (lv_at hl 1 rfl) ?_
    exact h_iret C hr hk hH hS rfl (by cases h; rfl) dX11_first_45
  · have h := ite_f hc h
    refine lv_aload_n hx hb dX11_first_20 rfl (lv_at hl 0 rfl) ?_
    refine lv_iload_n hx hb dX11_first_21 rfl (lv_at hl 3 rfl) ?_
    obtain ⟨r3, μ2, e1, h⟩ := b2_e h
    refine cVi (as := [.int x3]) (rest := []) (c_X11_savedByOne hW e1) C hl.1 hH hS rfl (jC_1 hW) rfl wd_22 wd_997 mw_X11_savedByOne wd_995 rfl (rm_ok (by decide) (by decide)) (Nat.le_of_ble_eq_true rfl) ⟨Nat.zero_le _, Nat.zero_le _⟩ (by decide) dX11_first_22 (fun H locs hH hS => ?_)
    refine lv_istore (lv' := [(4, .int r3), (0, .ref (wB ω + 1)), (1, .int x1), (2, .int x2), (3, .int x3)]) hx hb dX11_first_25 hl (by decide) rfl (fun ls hl => ?_)
    refine lv_iload hx hb dX11_first_27 (lv_at hl 0 rfl) ?_
    refine lv_iload_n hx hb dX11_first_29 rfl (lv_at hl 3 rfl) ?_
    refine lv_icmp_le (tgt := 38) hx hb dX11_first_30 (by decide) (fun hc => ?_) (fun hc => ?_)
    · have h := ite_t hc h
      refine lv_iinc (v := x3 + 1) (lv' := [(3, .int (x3 + 1)), (4, .int r3), (0, .ref (wB ω + 1)), (1, .int x1), (2, .int x2)]) hx hb dX11_first_38 hl (k := 4) rfl rfl (by decide) rfl (fun ls hl => ?_)
      refine lv_goto (tgt := 9) hx hb dX11_first_41 (by decide) ?_
      exact hrec _ _ _ _ H locs ls hH hS (lv_sub hl [2, 3, 4, 0] rfl) h
    · have h := ite_f hc h
      refine lv_iload hx hb dX11_first_33 (lv_at hl 0 rfl) ?_
      refine lv_istore_n (lv' := [(2, .int r3), (4, .int r3), (0, .ref (wB ω + 1)), (1, .int x1), (3, .int x3)]) hx hb dX11_first_35 rfl hl (by decide) rfl (fun ls hl => ?_)
      refine lv_iload_n hx hb dX11_first_36 rfl (lv_at hl 4 rfl) ?_
      refine lv_istore_n (lv' := [(1, .int x3), (2, .int r3), (4, .int r3), (0, .ref (wB ω + 1)), (3, .int x3)]) hx hb dX11_first_37 rfl hl (by decide) rfl (fun ls hl => ?_)
      refine lv_iinc (v := x3 + 1) (lv' := [(3, .int (x3 + 1)), (1, .int x3), (2, .int r3), (4, .int r3), (0, .ref (wB ω + 1))]) hx hb dX11_first_38 hl (k := 4) rfl rfl (by decide) rfl (fun ls hl => ?_)
      refine lv_goto (tgt := 9) hx hb dX11_first_41 (by decide) ?_
      exact hrec _ _ _ _ H locs ls hH hS (lv_sub hl [4, 1, 2, 0] rfl) h
theorem wX11_first_l9 (hW : FWC ω) (C : Cx ω p s m args c cX11_first 5 RX11) (hr : meth.sig.returnType = some .int) (hk : meth.locks = false) {rr : Int32} {μo : Mem} : ∀ (n : Nat) (x1 : Int32) (x2 : Int32) (x3 : Int32) (μ : Mem) (H : Heap) (locs : List Loc) (ls : Array Slot), Hd ω μ H → FS ω s H locs → lv_has ls 5 [(0, .ref (wB ω + 1)), (1, .int x1), (2, .int x2), (3, .int x3)] → fX11_first_l9 n x1 x2 x3 μ = some (rr, μo) → W p l e (rmd 7) s m args below meth c H locs 0 0 (MQ below (QR ω (some (.int rr)) μo) args s 0 0 (wA ω)) (F0 m 9 ls []) := by
  intro n
  induction n with
  | zero => intro x1 x2 x3 μ H locs ls hH hS hl h; cases h
  | succ n ih => intro x1 x2 x3 μ H locs ls hH hS hl h; exact wX11_first_s9 hW C hr hk ih hH hS hl h
set_option maxHeartbeats 4000000 in
set_option maxRecDepth 100000 in
theorem wX11_first_e (hW : FWC ω) (C : Cx ω p s m args c cX11_first 5 RX11) (hr : meth.sig.returnType = some .int) (hk : meth.locks = false) {rr : Int32} {μo : Mem} {μ : Mem} {H : Heap} {locs : List Loc} {ls : Array Slot} (hH : Hd ω μ H) (hS : FS ω s H locs) (hl : lv_has ls 5 [(0, .ref (wB ω + 1))]) (h : fX11_first μ = some (rr, μo)) : W p l e (rmd 7) s m args below meth c H locs 0 0 (MQ below (QR ω (some (.int rr)) μo) args s 0 0 (wA ω)) (F0 m 0 ls []) := by
  have hx := C.1
  have hb := C.2.1
  unfold fX11_first at h
  refine lv_bipush (v := (-2)) hx hb dX11_first_0 (by decide) ?_
  refine lv_istore_n (lv' := [(1, .int (-2)), (0, .ref (wB ω + 1))]) hx hb dX11_first_2 rfl hl (by decide) rfl (fun ls hl => ?_)
  refine lv_ldcw (v := (-100000)) hx hb C.2.2.2.1 (C.2.2.2.2.1 _ (tg wd_999 rfl)) dX11_first_3 ?_
  refine lv_istore_n (lv' := [(2, .int (-100000)), (1, .int (-2)), (0, .ref (wB ω + 1))]) hx hb dX11_first_6 rfl hl (by decide) rfl (fun ls hl => ?_)
  refine lv_iconst (v := 0) hx hb dX11_first_7 (by decide) ?_
  refine lv_istore_n (lv' := [(3, .int 0), (2, .int (-100000)), (1, .int (-2)), (0, .ref (wB ω + 1))]) hx hb dX11_first_8 rfl hl (by decide) rfl (fun ls hl => ?_)
  exact wX11_first_l9 hW C hr hk FU _ _ _ _ H locs ls hH hS (lv_sub hl [3, 2, 1, 0] rfl) h
theorem c_X11_first {l : Launch} {ω : WW} (hW : FWC ω) {μ : Mem} {rr : Int32} {μo : Mem} (h : fX11_first μ = some (rr, μo)) : Con l yX11_first cX11_first 5 (some .int) 7 ω [.ref (wB ω + 1)] μ (some (.int rr)) μo :=
  con_of (by decide) (Nat.le_of_ble_eq_true rfl) (fun p e s m args below meth c ls C hr hk hl hH hS => wX11_first_e hW C hr hk hH hS (lv_sub hl [0] rfl) h)
set_option maxHeartbeats 4000000 in
set_option maxRecDepth 100000 in
theorem wX11_forget_e (hW : FWC ω) (C : Cx ω p s m args c cX11_forget 2 RX11) (hr : meth.sig.returnType = some .int) (hk : meth.locks = false) {rr : Int32} {μo : Mem} {μ : Mem} {H : Heap} {locs : List Loc} {ls : Array Slot} (hH : Hd ω μ H) (hS : FS ω s H locs) (hl : lv_has ls 2 [(0, .ref (wB ω + 1))]) (h : fX11_forget μ = some (rr, μo)) : W p l e (rmd 1) s m args below meth c H locs 0 0 (MQ below (QR ω (some (.int rr)) μo) args s 0 0 (wA ω)) (F0 m 0 ls []) := by
  have hx := C.1
  have hb := C.2.1
  unfold fX11_forget at h
  refine lv_aload_n hx hb dX11_forget_0 rfl (lv_at hl 0 rfl) ?_
  refine g_487 (i := 186) C hH (jC_1 hW) rfl dX11_forget_1 ?_
  refine g_464 C hH (jC_186 hW) dX11_forget_4 ?_
  obtain ⟨y1, e2, h⟩ := bd_e h
  refine h_topi e2 ?_
  refine lv_istore_n (lv' := [(1, .int y1), (0, .ref (wB ω + 1))]) hx hb dX11_forget_7 rfl hl (by decide) rfl (fun ls hl => ?_)
  refine lv_aload_n hx hb dX11_forget_8 rfl (lv_at hl 1 rfl) ?_
  refine g_487 (i := 186) C hH (jC_1 hW) rfl dX11_forget_9 ?_
  refine lv_iconst (v := 0) hx hb dX11_forget_12 (by decide) ?_
  obtain ⟨μ3, e4, h⟩ := bd_e h
  refine p_464 C hH hS (jC_186 hW) dX11_forget_13 (fun H locs hH hS => ?_)
  have hH := Hd.to e4 hH
  refine lv_iload_n hx hb dX11_forget_16 rfl (lv_at hl 0 rfl) ?_
  exact h_iret C hr hk hH hS rfl (by cases h; rfl) dX11_forget_17
theorem c_X11_forget {l : Launch} {ω : WW} (hW : FWC ω) {μ : Mem} {rr : Int32} {μo : Mem} (h : fX11_forget μ = some (rr, μo)) : Con l yX11_forget cX11_forget 2 (some .int) 1 ω [.ref (wB ω + 1)] μ (some (.int rr)) μo :=
  con_of (by decide) (Nat.le_of_ble_eq_true rfl) (fun p e s m args below meth c ls C hr hk hl hH hS => wX11_forget_e hW C hr hk hH hS (lv_sub hl [0] rfl) h)
set_option maxHeartbeats 4000000 in
set_option maxRecDepth 100000 in
theorem wX11_gone_e (hW : FWC ω) (C : Cx ω p s m args c cX11_gone 2 RX11) (hr : meth.sig.returnType = some .int) (hk : meth.locks = false) {rr : Int32} {μo : Mem} {x1 : Int32} {μ : Mem} {H : Heap} {locs : List Loc} {ls : Array Slot} (hH : Hd ω μ H) (hS : FS ω s H locs) (hl : lv_has ls 2 [(0, .ref (wB ω + 1)), (1, .int x1)]) (h : fX11_gone x1 μ = some (rr, μo)) : W p l e (rmd 6) s m args below meth c H locs 0 0 (MQ below (QR ω (some (.int rr)) μo) args s 0 0 (wA ω)) (F0 m 0 ls []) := by
  have hx := C.1
  have hb := C.2.1
  unfold fX11_gone at h
  refine lv_aload_n hx hb dX11_gone_0 rfl (lv_at hl 0 rfl) ?_
  refine lv_iload_n hx hb dX11_gone_1 rfl (lv_at hl 1 rfl) ?_
  obtain ⟨r2, e1, h⟩ := b1_e h
  refine cVi (as := [.int x1]) (rest := []) (c_X11_isHouse hW e1) C hl.1 hH hS rfl (jC_1 hW) rfl wd_15 wd_741 mw_X11_isHouse wd_739 rfl (rm_ok (by decide) (by decide)) (Nat.le_of_ble_eq_true rfl) ⟨Nat.zero_le _, Nat.zero_le _⟩ (by decide) dX11_gone_2 (fun H locs hH hS => ?_)
  refine lv_if_eq (tgt := 17) hx hb dX11_gone_5 (by decide) (fun hc => ?_) (fun hc => ?_)
  · have h := ite_t hc h
    refine lv_iconst (v := (-1)) hx hb dX11_gone_17 (by decide) ?_
    exact h_iret C hr hk hH hS rfl (by cases h; rfl) dX11_gone_18
  · have h := ite_f hc h
    refine lv_aload_n hx hb dX11_gone_8 rfl (lv_at hl 0 rfl) ?_
    refine lv_iload_n hx hb dX11_gone_9 rfl (lv_at hl 1 rfl) ?_
    refine lv_iconst (v := 3) hx hb dX11_gone_10 (by decide) ?_
    obtain ⟨r5, μ4, e3, h⟩ := b2_e h
    refine cVi (as := [.int x1, .int 3]) (rest := []) (c_X11_daysTillNothing hW e3) C hl.1 hH hS rfl (jC_1 hW) rfl wd_21 wd_984 mw_X11_daysTillNothing wd_982 rfl (rm_ok (by decide) (by decide)) (Nat.le_of_ble_eq_true rfl) ⟨Nat.zero_le _, Nat.zero_le _⟩ (by decide) dX11_gone_11 (fun H locs hH hS => ?_)
    refine lv_goto (tgt := 18) hx hb dX11_gone_14 (by decide) ?_
    exact h_iret C hr hk hH hS rfl (by cases h; rfl) dX11_gone_18
theorem c_X11_gone {l : Launch} {ω : WW} {x1 : Int32} (hW : FWC ω) {μ : Mem} {rr : Int32} {μo : Mem} (h : fX11_gone x1 μ = some (rr, μo)) : Con l yX11_gone cX11_gone 2 (some .int) 6 ω [.ref (wB ω + 1), .int x1] μ (some (.int rr)) μo :=
  con_of (by decide) (Nat.le_of_ble_eq_true rfl) (fun p e s m args below meth c ls C hr hk hl hH hS => wX11_gone_e hW C hr hk hH hS (lv_sub hl [0, 1] rfl) h)
set_option maxHeartbeats 4000000 in
set_option maxRecDepth 100000 in
theorem wX11_hold_e (hW : FWC ω) (C : Cx ω p s m args c cX11_hold 2 RX11) (hr : meth.sig.returnType = some .boolean) (hk : meth.locks = false) {rr : Int32} {μo : Mem} {x1 : Int32} {μ : Mem} {H : Heap} {locs : List Loc} {ls : Array Slot} (hH : Hd ω μ H) (hS : FS ω s H locs) (hl : lv_has ls 2 [(0, .ref (wB ω + 1)), (1, .int x1)]) (h : fX11_hold x1 μ = some (rr, μo)) : W p l e (rmd 4) s m args below meth c H locs 0 0 (MQ below (QR ω (some (.int rr)) μo) args s 0 0 (wA ω)) (F0 m 0 ls []) := by
  have hx := C.1
  have hb := C.2.1
  unfold fX11_hold at h
  refine lv_aload_n hx hb dX11_hold_0 rfl (lv_at hl 0 rfl) ?_
  refine g_480 (i := 30) C hH (jC_1 hW) rfl dX11_hold_1 ?_
  refine lv_iload_n hx hb dX11_hold_4 rfl (lv_at hl 1 rfl) ?_
  refine lv_aload_n hx hb dX11_hold_5 rfl (lv_at hl 0 rfl) ?_
  refine g_477 (i := 24) C hH (jC_1 hW) rfl dX11_hold_6 ?_
  obtain ⟨r3, μ2, e1, h⟩ := b2_e h
  refine cVi (as := [.int x1, .ref (wB ω + 24)]) (rest := []) (c_X0_keep hW (sC_24 hW) e1) C hl.1 hH hS rfl (jC_30 hW) rfl wd_901 wd_900 mw_X0_keep wd_899 rfl (rm_ok (by decide) (by decide)) (Nat.le_of_ble_eq_true rfl) ⟨Nat.zero_le _, Nat.zero_le _⟩ (by decide) dX11_hold_9 (fun H locs hH hS => ?_)
  exact h_zret (y := r3 &&& 1) C hr hk hH hS rfl (by cases h; rfl) dX11_hold_12
theorem c_X11_hold {l : Launch} {ω : WW} {x1 : Int32} (hW : FWC ω) {μ : Mem} {rr : Int32} {μo : Mem} (h : fX11_hold x1 μ = some (rr, μo)) : Con l yX11_hold cX11_hold 2 (some .boolean) 4 ω [.ref (wB ω + 1), .int x1] μ (some (.int rr)) μo :=
  con_of (by decide) (Nat.le_of_ble_eq_true rfl) (fun p e s m args below meth c ls C hr hk hl hH hS => wX11_hold_e hW C hr hk hH hS (lv_sub hl [0, 1] rfl) h)
set_option maxHeartbeats 4000000 in
set_option maxRecDepth 100000 in
theorem wX3_mends_e {q : Nat} {q1 : Nat} (hq : IsQ ω q) (hq1 : IsS ω q1) (C : Cx ω p s m args c cX3_mends 3 RX3) (hr : meth.sig.returnType = some .int) (hk : meth.locks = false) {rr : Int32} {μo : Mem} {x2 : Int32} {μ : Mem} {H : Heap} {locs : List Loc} {ls : Array Slot} (hH : Hd ω μ H) (hS : FS ω s H locs) (hl : lv_has ls 3 [(0, .ref (wB ω + q)), (1, .ref (wB ω + q1)), (2, .int x2)]) (h : fX3_mends q q1 x2 μ = some (rr, μo)) : W p l e (rmd 3) s m args below meth c H locs 0 0 (MQ below (QR ω (some (.int rr)) μo) args s 0 0 (wA ω)) (F0 m 0 ls []) := by
  have hx := C.1
  have hb := C.2.1
  unfold fX3_mends at h
  refine lv_iconst (v := 0) hx hb dX3_mends_0 (by decide) ?_
  refine lv_bipush (v := 99) hx hb dX3_mends_1 (by decide) ?_
  refine lv_aload_n hx hb dX3_mends_3 rfl (lv_at hl 0 rfl) ?_
  refine g_258 (i := q + 2) C hH hq.1 rfl dX3_mends_4 ?_
  refine lv_iconst (v := 3) hx hb dX3_mends_7 (by decide) ?_
  refine lv_aload_n hx hb dX3_mends_8 rfl (lv_at hl 1 rfl) ?_
  refine lv_iload_n hx hb dX3_mends_9 rfl (lv_at hl 2 rfl) ?_
  obtain ⟨r3, μ2, e1, h⟩ := b2_e h
  refine cVi (as := [.int 3, .ref (wB ω + q1), .int x2]) (rest := [.int 99, .int 0]) (c_X1_valueOf hq.2.2 hq1 e1) C hl.1 hH hS rfl hq.2.2.1 rfl wd_753 wd_752 mw_X1_valueOf wd_751 rfl (rm_ok (by decide) (by decide)) (Nat.le_of_ble_eq_true rfl) ⟨Nat.zero_le _, Nat.zero_le _⟩ (by decide) dX3_mends_10 (fun H locs hH hS => ?_)
  refine h_mmin C hl.1 wd_760 (rest := [.int 0]) (Nat.le_of_ble_eq_true rfl) (Nat.le_of_ble_eq_true rfl) ⟨Nat.zero_le _, Nat.zero_le _⟩ dX3_mends_13 ?_
  refine h_topi (y := jmin 99 r3) rfl ?_
  refine h_mmax C hl.1 wd_761 (rest := []) (Nat.le_of_ble_eq_true rfl) (Nat.le_of_ble_eq_true rfl) ⟨Nat.zero_le _, Nat.zero_le _⟩ dX3_mends_16 ?_
  refine h_topi (y := jmax 0 (jmin 99 r3)) rfl ?_
  exact h_iret C hr hk hH hS rfl (by cases h; rfl) dX3_mends_19
theorem c_X3_mends {l : Launch} {ω : WW} {q : Nat} {q1 : Nat} {x2 : Int32} (hq : IsQ ω q) (hq1 : IsS ω q1) {μ : Mem} {rr : Int32} {μo : Mem} (h : fX3_mends q q1 x2 μ = some (rr, μo)) : Con l yX3_mends cX3_mends 3 (some .int) 3 ω [.ref (wB ω + q), .ref (wB ω + q1), .int x2] μ (some (.int rr)) μo :=
  con_of (by decide) (Nat.le_of_ble_eq_true rfl) (fun p e s m args below meth c ls C hr hk hl hH hS => wX3_mends_e hq hq1 C hr hk hH hS (lv_sub hl [0, 1, 2] rfl) h)
set_option maxHeartbeats 4000000 in
set_option maxRecDepth 100000 in
theorem wX11_house_e (hW : FWC ω) (C : Cx ω p s m args c cX11_house 3 RX11) (hr : meth.sig.returnType = some .int) (hk : meth.locks = false) {rr : Int32} {μo : Mem} {x1 : Int32} {x2 : Int32} {μ : Mem} {H : Heap} {locs : List Loc} {ls : Array Slot} (hH : Hd ω μ H) (hS : FS ω s H locs) (hl : lv_has ls 3 [(0, .ref (wB ω + 1)), (1, .int x1), (2, .int x2)]) (h : fX11_house x1 x2 μ = some (rr, μo)) : W p l e (rmd 4) s m args below meth c H locs 0 0 (MQ below (QR ω (some (.int rr)) μo) args s 0 0 (wA ω)) (F0 m 0 ls []) := by
  have hx := C.1
  have hb := C.2.1
  unfold fX11_house at h
  refine lv_aload_n hx hb dX11_house_0 rfl (lv_at hl 0 rfl) ?_
  refine lv_iload_n hx hb dX11_house_1 rfl (lv_at hl 1 rfl) ?_
  obtain ⟨r2, e1, h⟩ := b1_e h
  refine cVi (as := [.int x1]) (rest := []) (c_X11_isHouse hW e1) C hl.1 hH hS rfl (jC_1 hW) rfl wd_15 wd_741 mw_X11_isHouse wd_739 rfl (rm_ok (by decide) (by decide)) (Nat.le_of_ble_eq_true rfl) ⟨Nat.zero_le _, Nat.zero_le _⟩ (by decide) dX11_house_2 (fun H locs hH hS => ?_)
  refine lv_if_eq (tgt := 18) hx hb dX11_house_5 (by decide) (fun hc => ?_) (fun hc => ?_)
  · have h := ite_t hc h
    refine lv_iconst (v := (-1)) hx hb dX11_house_18 (by decide) ?_
    exact h_iret C hr hk hH hS rfl (by cases h; rfl) dX11_house_19
  · have h := ite_f hc h
    refine lv_iload_n hx hb dX11_house_8 rfl (lv_at hl 2 rfl) ?_
    refine lv_if_lt (tgt := 18) hx hb dX11_house_9 (by decide) (fun hc => ?_) (fun hc => ?_)
    · have h := ite_t hc h
      refine lv_iconst (v := (-1)) hx hb dX11_house_18 (by decide) ?_
      exact h_iret C hr hk hH hS rfl (by cases h; rfl) dX11_house_19
    · have h := ite_f hc h
      refine lv_iload_n hx hb dX11_house_12 rfl (lv_at hl 2 rfl) ?_
      refine lv_bipush (v := 12) hx hb dX11_house_13 (by decide) ?_
      refine lv_icmp_le (tgt := 20) hx hb dX11_house_15 (by decide) (fun hc => ?_) (fun hc => ?_)
      · have h := ite_t hc h
        refine lv_iload_n hx hb dX11_house_20 rfl (lv_at hl 2 rfl) ?_
        refine lv_bipush (v := 7) hx hb dX11_house_21 (by decide) ?_
        refine lv_icmp_ge (tgt := 36) hx hb dX11_house_23 (by decide) (fun hc => ?_) (fun hc => ?_)
        · have h := ite_t hc h
          refine lv_iload_n hx hb dX11_house_36 rfl (lv_at hl 2 rfl) ?_
          by_cases b6 : x2 = 7
          · have h := ite_t b6 h
            refine lv_tableIn (tgt := 72) (off := 35) hx hb dX11_house_37 (by rw [b6]; decide) (by rw [b6]; decide) (by rw [b6]; rfl) (by decide) ?_
            refine lv_aload_n hx hb dX11_house_72 rfl (lv_at hl 0 rfl) ?_
            refine g_476 (i := 17) C hH (jC_1 hW) rfl dX11_house_73 ?_
            refine lv_aload_n hx hb dX11_house_76 rfl (lv_at hl 0 rfl) ?_
            refine g_477 (i := 24) C hH (jC_1 hW) rfl dX11_house_77 ?_
            refine lv_iload_n hx hb dX11_house_80 rfl (lv_at hl 1 rfl) ?_
            obtain ⟨r5, μ4, e3, h⟩ := b2_e h
            refine cVi (as := [.ref (wB ω + 24), .int x1]) (rest := []) (c_X3_cools (qC_17 hW) (sC_24 hW) e3) C hl.1 hH hS rfl (jC_17 hW) rfl wd_749 wd_748 mw_X3_cools wd_747 rfl (rm_ok (by decide) (by decide)) (Nat.le_of_ble_eq_true rfl) ⟨Nat.zero_le _, Nat.zero_le _⟩ (by decide) dX11_house_81 (fun H locs hH hS => ?_)
            exact h_iret C hr hk hH hS rfl (by cases h; rfl) dX11_house_84
          have h := ite_f b6 h
          by_cases b10 : x2 = 8
          · have h := ite_t b10 h
            refine lv_tableIn (tgt := 85) (off := 48) hx hb dX11_house_37 (by rw [b10]; decide) (by rw [b10]; decide) (by rw [b10]; rfl) (by decide) ?_
            refine lv_aload_n hx hb dX11_house_85 rfl (lv_at hl 0 rfl) ?_
            refine g_476 (i := 17) C hH (jC_1 hW) rfl dX11_house_86 ?_
            refine lv_aload_n hx hb dX11_house_89 rfl (lv_at hl 0 rfl) ?_
            refine g_477 (i := 24) C hH (jC_1 hW) rfl dX11_house_90 ?_
            refine lv_iload_n hx hb dX11_house_93 rfl (lv_at hl 1 rfl) ?_
            obtain ⟨r9, μ8, e7, h⟩ := b2_e h
            refine cVi (as := [.ref (wB ω + 24), .int x1]) (rest := []) (c_X3_warms (qC_17 hW) (sC_24 hW) e7) C hl.1 hH hS rfl (jC_17 hW) rfl wd_764 wd_763 mw_X3_warms wd_762 rfl (rm_ok (by decide) (by decide)) (Nat.le_of_ble_eq_true rfl) ⟨Nat.zero_le _, Nat.zero_le _⟩ (by decide) dX11_house_94 (fun H locs hH hS => ?_)
            exact h_iret C hr hk hH hS rfl (by cases h; rfl) dX11_house_97
          have h := ite_f b10 h
          by_cases b14 : x2 = 9
          · have h := ite_t b14 h
            refine lv_tableIn (tgt := 98) (off := 61) hx hb dX11_house_37 (by rw [b14]; decide) (by rw [b14]; decide) (by rw [b14]; rfl) (by decide) ?_
            refine lv_aload_n hx hb dX11_house_98 rfl (lv_at hl 0 rfl) ?_
            refine g_476 (i := 17) C hH (jC_1 hW) rfl dX11_house_99 ?_
            refine lv_aload_n hx hb dX11_house_102 rfl (lv_at hl 0 rfl) ?_
            refine g_477 (i := 24) C hH (jC_1 hW) rfl dX11_house_103 ?_
            refine lv_iload_n hx hb dX11_house_106 rfl (lv_at hl 1 rfl) ?_
            obtain ⟨r13, μ12, e11, h⟩ := b2_e h
            refine cVi (as := [.ref (wB ω + 24), .int x1]) (rest := []) (c_X3_fades (qC_17 hW) (sC_24 hW) e11) C hl.1 hH hS rfl (jC_17 hW) rfl wd_768 wd_767 mw_X3_fades wd_766 rfl (rm_ok (by decide) (by decide)) (Nat.le_of_ble_eq_true rfl) ⟨Nat.zero_le _, Nat.zero_le _⟩ (by decide) dX11_house_107 (fun H locs hH hS => ?_)
            exact h_iret C hr hk hH hS rfl (by cases h; rfl) dX11_house_110
          have h := ite_f b14 h
          by_cases b18 : x2 = 10
          · have h := ite_t b18 h
            refine lv_tableIn (tgt := 111) (off := 74) hx hb dX11_house_37 (by rw [b18]; decide) (by rw [b18]; decide) (by rw [b18]; rfl) (by decide) ?_
            refine lv_aload_n hx hb dX11_house_111 rfl (lv_at hl 0 rfl) ?_
            refine g_476 (i := 17) C hH (jC_1 hW) rfl dX11_house_112 ?_
            refine lv_aload_n hx hb dX11_house_115 rfl (lv_at hl 0 rfl) ?_
            refine g_477 (i := 24) C hH (jC_1 hW) rfl dX11_house_116 ?_
            refine lv_iload_n hx hb dX11_house_119 rfl (lv_at hl 1 rfl) ?_
            obtain ⟨r17, μ16, e15, h⟩ := b2_e h
            refine cVi (as := [.ref (wB ω + 24), .int x1]) (rest := []) (c_X3_mends (qC_17 hW) (sC_24 hW) e15) C hl.1 hH hS rfl (jC_17 hW) rfl wd_773 wd_772 mw_X3_mends wd_771 rfl (rm_ok (by decide) (by decide)) (Nat.le_of_ble_eq_true rfl) ⟨Nat.zero_le _, Nat.zero_le _⟩ (by decide) dX11_house_120 (fun H locs hH hS => ?_)
            exact h_iret C hr hk hH hS rfl (by cases h; rfl) dX11_house_123
          have h := ite_f b18 h
          by_cases b21 : x2 = 11
          · have h := ite_t b21 h
            refine lv_tableIn (tgt := 124) (off := 87) hx hb dX11_house_37 (by rw [b21]; decide) (by rw [b21]; decide) (by rw [b21]; rfl) (by decide) ?_
            refine lv_aload_n hx hb dX11_house_124 rfl (lv_at hl 0 rfl) ?_
            refine g_476 (i := 17) C hH (jC_1 hW) rfl dX11_house_125 ?_
            refine lv_iload_n hx hb dX11_house_128 rfl (lv_at hl 1 rfl) ?_
            obtain ⟨r20, e19, h⟩ := b1_e h
            refine cVi (as := [.int x1]) (rest := []) (c_X3_xOf (qC_17 hW) e19) C hl.1 hH hS rfl (jC_17 hW) rfl wd_777 wd_776 mw_X3_xOf wd_775 rfl (rm_ok (by decide) (by decide)) (Nat.le_of_ble_eq_true rfl) ⟨Nat.zero_le _, Nat.zero_le _⟩ (by decide) dX11_house_129 (fun H locs hH hS => ?_)
            exact h_iret C hr hk hH hS rfl (by cases h; rfl) dX11_house_132
          have h := ite_f b21 h
          have b6 := ne_ti (z := 7) b6 (by decide)
          have b10 := ne_ti (z := 8) b10 (by decide)
          have b14 := ne_ti (z := 9) b14 (by decide)
          have b18 := ne_ti (z := 10) b18 (by decide)
          have b21 := ne_ti (z := 11) b21 (by decide)
          refine lv_tableOut (tgt := 133) hx hb dX11_house_37 (by omega) (by decide) ?_
          refine lv_aload_n hx hb dX11_house_133 rfl (lv_at hl 0 rfl) ?_
          refine g_476 (i := 17) C hH (jC_1 hW) rfl dX11_house_134 ?_
          refine lv_iload_n hx hb dX11_house_137 rfl (lv_at hl 1 rfl) ?_
          obtain ⟨r23, e22, h⟩ := b1_e h
          refine cVi (as := [.int x1]) (rest := []) (c_X3_yOf (qC_17 hW) e22) C hl.1 hH hS rfl (jC_17 hW) rfl wd_781 wd_780 mw_X3_yOf wd_779 rfl (rm_ok (by decide) (by decide)) (Nat.le_of_ble_eq_true rfl) ⟨Nat.zero_le _, Nat.zero_le _⟩ (by decide) dX11_house_138 (fun H locs hH hS => ?_)
          exact h_iret C hr hk hH hS rfl (by cases h; rfl) dX11_house_141
        · have h := ite_f hc h
          refine lv_aload_n hx hb dX11_house_26 rfl (lv_at hl 0 rfl) ?_
          refine g_477 (i := 24) C hH (jC_1 hW) rfl dX11_house_27 ?_
          refine lv_iload_n hx hb dX11_house_30 rfl (lv_at hl 1 rfl) ?_
          refine lv_iload_n hx hb dX11_house_31 rfl (lv_at hl 2 rfl) ?_
          obtain ⟨r25, e24, h⟩ := b1_e h
          refine cVi (as := [.int x1, .int x2]) (rest := []) (c_X7_get (sC_24 hW) e24) C hl.1 hH hS rfl (jC_24 hW) rfl wd_745 wd_744 mw_X7_get wd_743 rfl (rm_ok (by decide) (by decide)) (Nat.le_of_ble_eq_true rfl) ⟨Nat.zero_le _, Nat.zero_le _⟩ (by decide) dX11_house_32 (fun H locs hH hS => ?_)
          exact h_iret C hr hk hH hS rfl (by cases h; rfl) dX11_house_35
      · have h := ite_f hc h
        refine lv_iconst (v := (-1)) hx hb dX11_house_18 (by decide) ?_
        exact h_iret C hr hk hH hS rfl (by cases h; rfl) dX11_house_19
theorem c_X11_house {l : Launch} {ω : WW} {x1 : Int32} {x2 : Int32} (hW : FWC ω) {μ : Mem} {rr : Int32} {μo : Mem} (h : fX11_house x1 x2 μ = some (rr, μo)) : Con l yX11_house cX11_house 3 (some .int) 4 ω [.ref (wB ω + 1), .int x1, .int x2] μ (some (.int rr)) μo :=
  con_of (by decide) (Nat.le_of_ble_eq_true rfl) (fun p e s m args below meth c ls C hr hk hl hH hS => wX11_house_e hW C hr hk hH hS (lv_sub hl [0, 1, 2] rfl) h)
set_option maxHeartbeats 4000000 in
set_option maxRecDepth 100000 in
theorem wX6_fewestBest_s5 {q : Nat} {hn : Nat} (hq : IsH ω q hn) (C : Cx ω p s m args c cX6_fewestBest 6 RX6) (hr : meth.sig.returnType = some .int) (hk : meth.locks = false) {rr : Int32} {μ : Mem} {x1 : Int32} {x2 : Int32} {x3 : Int32} {x4 : Int32} {rec : Int32 → Int32 → Option Int32} (hrec : ∀ (z3 : Int32) (z4 : Int32) (H : Heap) (locs : List Loc) (ls : Array Slot), Hd ω μ H → FS ω s H locs → lv_has ls 6 [(0, .ref (wB ω + q)), (1, .int x1), (2, .int x2), (3, .int z3), (4, .int z4)] → rec z3 z4 = some rr → W p l e (rmd 1) s m args below meth c H locs 0 0 (MQ below (QR ω (some (.int rr)) μ) args s 0 0 (wA ω)) (F0 m 5 ls [])) {H : Heap} {locs : List Loc} {ls : Array Slot} (hH : Hd ω μ H) (hS : FS ω s H locs) (hl : lv_has ls 6 [(0, .ref (wB ω + q)), (1, .int x1), (2, .int x2), (3, .int x3), (4, .int x4)]) (h : fX6_fewestBest_s5 rec q hn x1 x2 x3 x4 μ = some rr) : W p l e (rmd 1) s m args below meth c H locs 0 0 (MQ below (QR ω (some (.int rr)) μ) args s 0 0 (wA ω)) (F0 m 5 ls []) := by
  have hx := C.1
  have hb := C.2.1
  unfold fX6_fewestBest_s5 at h
  refine lv_iload hx hb dX6_fewestBest_5 (lv_at hl 4 rfl) ?_
  refine lv_iload_n hx hb dX6_fewestBest_7 rfl (lv_at hl 2 rfl) ?_
  refine lv_icmp_gt (tgt := 71) hx hb dX6_fewestBest_8 (by decide) (fun hc => ?_) (fun hc => ?_)
  · have h := ite_t hc h
    refine lv_iload_n hx hb dX6_fewestBest_71 rfl (lv_at hl 3 rfl) ?_
    exact h_iret C hr hk hH hS rfl (by cases h; rfl) dX6_fewestBest_72
  · have h := ite_f hc h
    refine lv_aload_n hx hb dX6_fewestBest_11 rfl (lv_at hl 0 rfl) ?_
    refine g_387 (i := q + 3) C hH hq.1 rfl dX6_fewestBest_12 ?_
    refine lv_iload_n hx hb dX6_fewestBest_15 rfl (lv_at hl 1 rfl) ?_
    obtain ⟨b1, h⟩ := gd_e h
    refine h_aald5 C hH hq.2.2.1.1 hq.2.2.1.2.1 hq.2.2.1.2.2 b1 dX6_fewestBest_16 ?_
    refine lv_iload hx hb dX6_fewestBest_17 (lv_at hl 4 rfl) ?_
    obtain ⟨b2, h⟩ := gd_e h
    refine h_iald C hH (hq.2.2.2.1 _ (ix_lt b1)).1 (hq.2.2.2.1 _ (ix_lt b1)).2.1 b2 dX6_fewestBest_19 ?_
    refine lv_aload_n hx hb dX6_fewestBest_20 rfl (lv_at hl 0 rfl) ?_
    refine g_388 (i := q + 10) C hH hq.1 rfl dX6_fewestBest_21 ?_
    refine lv_iload_n hx hb dX6_fewestBest_24 rfl (lv_at hl 1 rfl) ?_
    refine lv_iconst (v := 1) hx hb dX6_fewestBest_25 (by decide) ?_
    refine lv_iadd hx hb dX6_fewestBest_26 ?_
    obtain ⟨b3, h⟩ := gd_e h
    refine h_aald5 C hH hq.2.2.2.2.1.1 hq.2.2.2.2.1.2.1 hq.2.2.2.2.1.2.2 b3 dX6_fewestBest_27 ?_
    refine lv_iload_n hx hb dX6_fewestBest_28 rfl (lv_at hl 2 rfl) ?_
    refine lv_iload hx hb dX6_fewestBest_29 (lv_at hl 4 rfl) ?_
    refine lv_isub hx hb dX6_fewestBest_31 ?_
    obtain ⟨b4, h⟩ := gd_e h
    refine h_iald C hH (hq.2.2.2.2.2.1 _ (ix_lt b3)).1 (hq.2.2.2.2.2.1 _ (ix_lt b3)).2.1 b4 dX6_fewestBest_32 ?_
    refine lv_iadd hx hb dX6_fewestBest_33 ?_
    obtain ⟨y5, e6, h⟩ := bd_e h
    refine h_topi e6 ?_
    refine lv_istore (lv' := [(5, .int y5), (0, .ref (wB ω + q)), (1, .int x1), (2, .int x2), (3, .int x3), (4, .int x4)]) hx hb dX6_fewestBest_34 hl (by decide) rfl (fun ls hl => ?_)
    refine lv_iload hx hb dX6_fewestBest_36 (lv_at hl 0 rfl) ?_
    refine lv_aload_n hx hb dX6_fewestBest_38 rfl (lv_at hl 1 rfl) ?_
    refine g_387 (i := q + 3) C hH hq.1 rfl dX6_fewestBest_39 ?_
    refine lv_iload_n hx hb dX6_fewestBest_42 rfl (lv_at hl 2 rfl) ?_
    obtain ⟨b7, h⟩ := gd_e h
    refine h_aald5 C hH hq.2.2.1.1 hq.2.2.1.2.1 hq.2.2.1.2.2 b7 dX6_fewestBest_43 ?_
    refine lv_iload_n hx hb dX6_fewestBest_44 rfl (lv_at hl 4 rfl) ?_
    obtain ⟨b8, h⟩ := gd_e h
    refine h_iald C hH (hq.2.2.2.1 _ (ix_lt b7)).1 (hq.2.2.2.1 _ (ix_lt b7)).2.1 b8 dX6_fewestBest_45 ?_
    refine lv_aload_n hx hb dX6_fewestBest_46 rfl (lv_at hl 1 rfl) ?_
    refine g_388 (i := q + 10) C hH hq.1 rfl dX6_fewestBest_47 ?_
    refine lv_iload_n hx hb dX6_fewestBest_50 rfl (lv_at hl 2 rfl) ?_
    refine lv_iconst (v := 1) hx hb dX6_fewestBest_51 (by decide) ?_
    refine lv_iadd hx hb dX6_fewestBest_52 ?_
    obtain ⟨b9, h⟩ := gd_e h
    refine h_aald5 C hH hq.2.2.2.2.1.1 hq.2.2.2.2.1.2.1 hq.2.2.2.2.1.2.2 b9 dX6_fewestBest_53 ?_
    refine lv_iload_n hx hb dX6_fewestBest_54 rfl (lv_at hl 3 rfl) ?_
    refine lv_iload_n hx hb dX6_fewestBest_55 rfl (lv_at hl 4 rfl) ?_
    refine lv_isub hx hb dX6_fewestBest_56 ?_
    obtain ⟨b10, h⟩ := gd_e h
    refine h_iald C hH (hq.2.2.2.2.2.1 _ (ix_lt b9)).1 (hq.2.2.2.2.2.1 _ (ix_lt b9)).2.1 b10 dX6_fewestBest_57 ?_
    refine lv_iadd hx hb dX6_fewestBest_58 ?_
    refine lv_icmp_ge (tgt := 65) hx hb dX6_fewestBest_59 (by decide) (fun hc => ?_) (fun hc => ?_)
    · have h := ite_t hc h
      refine lv_iinc (v := x4 + 1) (lv' := [(4, .int (x4 + 1)), (5, .int y5), (0, .ref (wB ω + q)), (1, .int x1), (2, .int x2), (3, .int x3)]) hx hb dX6_fewestBest_65 hl (k := 5) rfl rfl (by decide) rfl (fun ls hl => ?_)
      refine lv_goto (tgt := 5) hx hb dX6_fewestBest_68 (by decide) ?_
      exact hrec _ _ H locs ls hH hS (lv_sub hl [2, 3, 4, 5, 0] rfl) h
    · have h := ite_f hc h
      refine lv_iload hx hb dX6_fewestBest_62 (lv_at hl 5 rfl) ?_
      refine lv_istore_n (lv' := [(3, .int x4), (5, .int y5), (0, .ref (wB ω + q)), (1, .int x1), (2, .int x2), (4, .int x4)]) hx hb dX6_fewestBest_64 rfl hl (by decide) rfl (fun ls hl => ?_)
      refine lv_iinc (v := x4 + 1) (lv' := [(4, .int (x4 + 1)), (3, .int x4), (5, .int y5), (0, .ref (wB ω + q)), (1, .int x1), (2, .int x2)]) hx hb dX6_fewestBest_65 hl (k := 5) rfl rfl (by decide) rfl (fun ls hl => ?_)
      refine lv_goto (tgt := 5) hx hb dX6_fewestBest_68 (by decide) ?_
      exact hrec _ _ H locs ls hH hS (lv_sub hl [3, 4, 5, 1, 0] rfl) h
theorem wX6_fewestBest_l5 {q : Nat} {hn : Nat} (hq : IsH ω q hn) (C : Cx ω p s m args c cX6_fewestBest 6 RX6) (hr : meth.sig.returnType = some .int) (hk : meth.locks = false) {rr : Int32} {μ : Mem} {x1 : Int32} {x2 : Int32} : ∀ (n : Nat) (x3 : Int32) (x4 : Int32) (H : Heap) (locs : List Loc) (ls : Array Slot), Hd ω μ H → FS ω s H locs → lv_has ls 6 [(0, .ref (wB ω + q)), (1, .int x1), (2, .int x2), (3, .int x3), (4, .int x4)] → fX6_fewestBest_l5 q hn x1 x2 μ n x3 x4 = some rr → W p l e (rmd 1) s m args below meth c H locs 0 0 (MQ below (QR ω (some (.int rr)) μ) args s 0 0 (wA ω)) (F0 m 5 ls []) := by
  intro n
  induction n with
  | zero => intro x3 x4 H locs ls hH hS hl h; cases h
  | succ n ih => intro x3 x4 H locs ls hH hS hl h; exact wX6_fewestBest_s5 hq C hr hk ih hH hS hl h
set_option maxHeartbeats 4000000 in
set_option maxRecDepth 100000 in
theorem wX6_fewestBest_e {q : Nat} {hn : Nat} (hq : IsH ω q hn) (C : Cx ω p s m args c cX6_fewestBest 6 RX6) (hr : meth.sig.returnType = some .int) (hk : meth.locks = false) {rr : Int32} {μ : Mem} {x1 : Int32} {x2 : Int32} {H : Heap} {locs : List Loc} {ls : Array Slot} (hH : Hd ω μ H) (hS : FS ω s H locs) (hl : lv_has ls 6 [(0, .ref (wB ω + q)), (1, .int x1), (2, .int x2)]) (h : fX6_fewestBest q hn x1 x2 μ = some rr) : W p l e (rmd 1) s m args below meth c H locs 0 0 (MQ below (QR ω (some (.int rr)) μ) args s 0 0 (wA ω)) (F0 m 0 ls []) := by
  have hx := C.1
  have hb := C.2.1
  unfold fX6_fewestBest at h
  refine lv_iconst (v := 0) hx hb dX6_fewestBest_0 (by decide) ?_
  refine lv_istore_n (lv' := [(3, .int 0), (0, .ref (wB ω + q)), (1, .int x1), (2, .int x2)]) hx hb dX6_fewestBest_1 rfl hl (by decide) rfl (fun ls hl => ?_)
  refine lv_iconst (v := 1) hx hb dX6_fewestBest_2 (by decide) ?_
  refine lv_istore (lv' := [(4, .int 1), (3, .int 0), (0, .ref (wB ω + q)), (1, .int x1), (2, .int x2)]) hx hb dX6_fewestBest_3 hl (by decide) rfl (fun ls hl => ?_)
  exact wX6_fewestBest_l5 hq C hr hk FU _ _ H locs ls hH hS (lv_sub hl [2, 3, 4, 1, 0] rfl) h
theorem c_X6_fewestBest {l : Launch} {ω : WW} {q : Nat} {hn : Nat} {x1 : Int32} {x2 : Int32} (hq : IsH ω q hn) {μ : Mem} {rr : Int32} (h : fX6_fewestBest q hn x1 x2 μ = some rr) : Con l yX6_fewestBest cX6_fewestBest 6 (some .int) 1 ω [.ref (wB ω + q), .int x1, .int x2] μ (some (.int rr)) μ :=
  con_of (by decide) (Nat.le_of_ble_eq_true rfl) (fun p e s m args below meth c ls C hr hk hl hH hS => wX6_fewestBest_e hq C hr hk hH hS (lv_sub hl [0, 1, 2] rfl) h)
set_option maxHeartbeats 4000000 in
set_option maxRecDepth 100000 in
theorem wX6_shareOut_s11 {q : Nat} {hn : Nat} (hq : IsH ω q hn) (C : Cx ω p s m args c cX6_shareOut 4 RX6) (hr : meth.sig.returnType = none) (hk : meth.locks = false) {μo : Mem} {x2 : Int32} {x3 : Int32} {rec : Int32 → Int32 → Mem → Option Mem} (hrec : ∀ (z2 : Int32) (z3 : Int32) (ν : Mem) (H : Heap) (locs : List Loc) (ls : Array Slot), Hd ω ν H → FS ω s H locs → lv_has ls 4 [(0, .ref (wB ω + q)), (2, .int z2), (3, .int z3)] → rec z2 z3 ν = some μo → W p l e (rmd 2) s m args below meth c H locs 0 0 (MQ below (QR ω none μo) args s 0 0 (wA ω)) (F0 m 11 ls [])) {μ : Mem} {H : Heap} {locs : List Loc} {ls : Array Slot} (hH : Hd ω μ H) (hS : FS ω s H locs) (hl : lv_has ls 4 [(0, .ref (wB ω + q)), (2, .int x2), (3, .int x3)]) (h : fX6_shareOut_s11 rec q hn x2 x3 μ = some μo) : W p l e (rmd 2) s m args below meth c H locs 0 0 (MQ below (QR ω none μo) args s 0 0 (wA ω)) (F0 m 11 ls []) := by
  have hx := C.1
  have hb := C.2.1
  unfold fX6_shareOut_s11 at h
  refine lv_iload_n hx hb dX6_shareOut_11 rfl (lv_at hl 2 rfl) ?_
  refine lv_aload_n hx hb dX6_shareOut_12 rfl (lv_at hl 0 rfl) ?_
  refine g_390 C hH hq.1 dX6_shareOut_13 ?_
  refine lv_icmp_ge (tgt := 46) hx hb dX6_shareOut_16 (by decide) (fun hc => ?_) (fun hc => ?_)
  · have h := ite_t hc h
    exact h_vret C hr hk hH hS (by cases h; rfl) dX6_shareOut_46
  · have h := ite_f hc h
    refine lv_aload_n hx hb dX6_shareOut_19 rfl (lv_at hl 0 rfl) ?_
    refine g_389 (i := q + 18) C hH hq.1 rfl dX6_shareOut_20 ?_
    refine lv_iload_n hx hb dX6_shareOut_23 rfl (lv_at hl 2 rfl) ?_
    refine lv_aload_n hx hb dX6_shareOut_24 rfl (lv_at hl 0 rfl) ?_
    refine lv_iload_n hx hb dX6_shareOut_25 rfl (lv_at hl 2 rfl) ?_
    refine lv_iload_n hx hb dX6_shareOut_26 rfl (lv_at hl 1 rfl) ?_
    obtain ⟨r4, e3, h⟩ := b1_e h
    refine cVi (as := [.int x3, .int x2]) (rest := [.int x3, .ref (wB ω + (q + 18))]) (c_X6_fewestBest hq e3) C hl.1 hH hS rfl hq.1 rfl wd_18 wd_934 mw_X6_fewestBest wd_932 rfl (rm_ok (by decide) (by decide)) (Nat.le_of_ble_eq_true rfl) ⟨Nat.zero_le _, Nat.zero_le _⟩ (by decide) dX6_shareOut_27 (fun H locs hH hS => ?_)
    obtain ⟨b5, h⟩ := gd_e h
    obtain ⟨μ6, e7, h⟩ := bd_e h
    refine h_iast C hH hS hq.2.2.2.2.2.2.1 hq.2.2.2.2.2.2.2.1 b5 dX6_shareOut_30 (fun H locs hH hS => ?_)
    have hH := Hd.to e7 hH
    refine lv_iload_n hx hb dX6_shareOut_31 rfl (lv_at hl 1 rfl) ?_
    refine lv_aload_n hx hb dX6_shareOut_32 rfl (lv_at hl 0 rfl) ?_
    refine g_389 (i := q + 18) C hH hq.1 rfl dX6_shareOut_33 ?_
    refine lv_iload_n hx hb dX6_shareOut_36 rfl (lv_at hl 2 rfl) ?_
    obtain ⟨b8, h⟩ := gd_e h
    refine h_iald C hH hq.2.2.2.2.2.2.1 hq.2.2.2.2.2.2.2.1 b8 dX6_shareOut_37 ?_
    refine lv_isub hx hb dX6_shareOut_38 ?_
    obtain ⟨y9, e10, h⟩ := bd_e h
    refine h_topi e10 ?_
    refine lv_istore_n (lv' := [(2, .int y9), (0, .ref (wB ω + q)), (3, .int x3)]) hx hb dX6_shareOut_39 rfl hl (by decide) rfl (fun ls hl => ?_)
    refine lv_iinc (v := x3 + 1) (lv' := [(3, .int (x3 + 1)), (2, .int y9), (0, .ref (wB ω + q))]) hx hb dX6_shareOut_40 hl (k := 2) rfl rfl (by decide) rfl (fun ls hl => ?_)
    refine lv_goto (tgt := 11) hx hb dX6_shareOut_43 (by decide) ?_
    exact hrec _ _ _ H locs ls hH hS (lv_sub hl [2, 1, 0] rfl) h
theorem wX6_shareOut_l11 {q : Nat} {hn : Nat} (hq : IsH ω q hn) (C : Cx ω p s m args c cX6_shareOut 4 RX6) (hr : meth.sig.returnType = none) (hk : meth.locks = false) {μo : Mem} : ∀ (n : Nat) (x2 : Int32) (x3 : Int32) (μ : Mem) (H : Heap) (locs : List Loc) (ls : Array Slot), Hd ω μ H → FS ω s H locs → lv_has ls 4 [(0, .ref (wB ω + q)), (2, .int x2), (3, .int x3)] → fX6_shareOut_l11 q hn n x2 x3 μ = some μo → W p l e (rmd 2) s m args below meth c H locs 0 0 (MQ below (QR ω none μo) args s 0 0 (wA ω)) (F0 m 11 ls []) := by
  intro n
  induction n with
  | zero => intro x2 x3 μ H locs ls hH hS hl h; cases h
  | succ n ih => intro x2 x3 μ H locs ls hH hS hl h; exact wX6_shareOut_s11 hq C hr hk ih hH hS hl h
set_option maxHeartbeats 4000000 in
set_option maxRecDepth 100000 in
theorem wX6_shareOut_e {q : Nat} {hn : Nat} (hq : IsH ω q hn) (C : Cx ω p s m args c cX6_shareOut 4 RX6) (hr : meth.sig.returnType = none) (hk : meth.locks = false) {μo : Mem} {x1 : Int32} {μ : Mem} {H : Heap} {locs : List Loc} {ls : Array Slot} (hH : Hd ω μ H) (hS : FS ω s H locs) (hl : lv_has ls 4 [(0, .ref (wB ω + q)), (1, .int x1)]) (h : fX6_shareOut q hn x1 μ = some μo) : W p l e (rmd 2) s m args below meth c H locs 0 0 (MQ below (QR ω none μo) args s 0 0 (wA ω)) (F0 m 0 ls []) := by
  have hx := C.1
  have hb := C.2.1
  unfold fX6_shareOut at h
  refine lv_iload_n hx hb dX6_shareOut_0 rfl (lv_at hl 1 rfl) ?_
  refine lv_aload_n hx hb dX6_shareOut_1 rfl (lv_at hl 0 rfl) ?_
  refine g_385 C hH hq.1 dX6_shareOut_2 ?_
  refine h_mmin C hl.1 wd_928 (rest := []) (Nat.le_of_ble_eq_true rfl) (Nat.le_of_ble_eq_true rfl) ⟨Nat.zero_le _, Nat.zero_le _⟩ dX6_shareOut_5 ?_
  refine h_topi (y := jmin x1 (μ.1 q 0)) rfl ?_
  obtain ⟨y1, e2, h⟩ := bd_e h
  refine h_topi e2 ?_
  refine lv_istore_n (lv' := [(2, .int y1), (0, .ref (wB ω + q)), (1, .int x1)]) hx hb dX6_shareOut_8 rfl hl (by decide) rfl (fun ls hl => ?_)
  refine lv_iconst (v := 0) hx hb dX6_shareOut_9 (by decide) ?_
  refine lv_istore_n (lv' := [(3, .int 0), (2, .int y1), (0, .ref (wB ω + q)), (1, .int x1)]) hx hb dX6_shareOut_10 rfl hl (by decide) rfl (fun ls hl => ?_)
  exact wX6_shareOut_l11 hq C hr hk FU _ _ _ H locs ls hH hS (lv_sub hl [2, 1, 0] rfl) h
theorem c_X6_shareOut {l : Launch} {ω : WW} {q : Nat} {hn : Nat} {x1 : Int32} (hq : IsH ω q hn) {μ : Mem} {μo : Mem} (h : fX6_shareOut q hn x1 μ = some μo) : Con l yX6_shareOut cX6_shareOut 4 none 2 ω [.ref (wB ω + q), .int x1] μ none μo :=
  con_of (by decide) (Nat.le_of_ble_eq_true rfl) (fun p e s m args below meth c ls C hr hk hl hH hS => wX6_shareOut_e hq C hr hk hH hS (lv_sub hl [0, 1] rfl) h)
set_option maxHeartbeats 4000000 in
set_option maxRecDepth 100000 in
theorem wX6_burnGiven_s8 {q : Nat} {hn : Nat} {q1 : Nat} {q2 : Nat} {q3 : Nat} (hq : IsH ω q hn) (hq1 : IsQ ω q1) (hq2 : IsS ω q2) (hq3 : IsS ω q3) (C : Cx ω p s m args c cX6_burnGiven 5 RX6) (hr : meth.sig.returnType = none) (hk : meth.locks = false) {μo : Mem} {x4 : Int32} {rec : Int32 → Mem → Option Mem} (hrec : ∀ (z4 : Int32) (ν : Mem) (H : Heap) (locs : List Loc) (ls : Array Slot), Hd ω ν H → FS ω s H locs → lv_has ls 5 [(0, .ref (wB ω + q)), (1, .ref (wB ω + q1)), (3, .ref (wB ω + q3)), (4, .int z4)] → rec z4 ν = some μo → W p l e (rmd 6) s m args below meth c H locs 0 0 (MQ below (QR ω none μo) args s 0 0 (wA ω)) (F0 m 8 ls [])) {K : Mem → Option Mem} (hK : ∀ (ν : Mem) (H : Heap) (locs : List Loc) (ls : Array Slot), Hd ω ν H → FS ω s H locs → lv_has ls 5 [(1, .ref (wB ω + q1)), (3, .ref (wB ω + q3))] → K ν = some μo → W p l e (rmd 6) s m args below meth c H locs 0 0 (MQ below (QR ω none μo) args s 0 0 (wA ω)) (F0 m 37 ls [])) {μ : Mem} {H : Heap} {locs : List Loc} {ls : Array Slot} (hH : Hd ω μ H) (hS : FS ω s H locs) (hl : lv_has ls 5 [(0, .ref (wB ω + q)), (1, .ref (wB ω + q1)), (3, .ref (wB ω + q3)), (4, .int x4)]) (h : fX6_burnGiven_s8 rec K q hn q1 q2 q3 x4 μ = some μo) : W p l e (rmd 6) s m args below meth c H locs 0 0 (MQ below (QR ω none μo) args s 0 0 (wA ω)) (F0 m 8 ls []) := by
  have hx := C.1
  have hb := C.2.1
  unfold fX6_burnGiven_s8 at h
  refine lv_iload hx hb dX6_burnGiven_8 (lv_at hl 3 rfl) ?_
  refine lv_aload_n hx hb dX6_burnGiven_10 rfl (lv_at hl 0 rfl) ?_
  refine g_390 C hH hq.1 dX6_burnGiven_11 ?_
  refine lv_icmp_ge (tgt := 37) hx hb dX6_burnGiven_14 (by decide) (fun hc => ?_) (fun hc => ?_)
  · have h := ite_t hc h
    exact hK _ H locs ls hH hS (lv_sub hl [1, 2] rfl) h
  · have h := ite_f hc h
    refine lv_aload_n hx hb dX6_burnGiven_17 rfl (lv_at hl 1 rfl) ?_
    refine lv_aload_n hx hb dX6_burnGiven_18 rfl (lv_at hl 2 rfl) ?_
    refine lv_iload hx hb dX6_burnGiven_19 (lv_at hl 3 rfl) ?_
    refine lv_aload_n hx hb dX6_burnGiven_21 rfl (lv_at hl 0 rfl) ?_
    refine g_389 (i := q + 18) C hH hq.1 rfl dX6_burnGiven_22 ?_
    refine lv_iload hx hb dX6_burnGiven_25 (lv_at hl 3 rfl) ?_
    obtain ⟨b3, h⟩ := gd_e h
    refine h_iald C hH hq.2.2.2.2.2.2.1 hq.2.2.2.2.2.2.2.1 b3 dX6_burnGiven_27 ?_
    obtain ⟨μ5, e4, h⟩ := b1_e h
    refine cVv (as := [.ref (wB ω + q3), .int x4, .int (μ.1 (q + 18) x4.toNatClampNeg)]) (rest := []) (c_X3_burnIn hq1 hq3 e4) C hl.1 hH hS rfl hq1.1 rfl wd_835 wd_834 mw_X3_burnIn wd_930 rfl (rm_ok (by decide) (by decide)) (Nat.le_of_ble_eq_true rfl) ⟨Nat.zero_le _, Nat.zero_le _⟩ (by decide) dX6_burnGiven_28 (fun H locs hH hS => ?_)
    refine lv_iinc (v := x4 + 1) (lv' := [(4, .int (x4 + 1)), (0, .ref (wB ω + q)), (1, .ref (wB ω + q1)), (3, .ref (wB ω + q3))]) hx hb dX6_burnGiven_31 hl (k := 3) rfl rfl (by decide) rfl (fun ls hl => ?_)
    refine lv_goto (tgt := 8) hx hb dX6_burnGiven_34 (by decide) ?_
    exact hrec _ _ H locs ls hH hS (lv_sub hl [1, 2, 3, 0] rfl) h
theorem wX6_burnGiven_l8 {q : Nat} {hn : Nat} {q1 : Nat} {q2 : Nat} {q3 : Nat} (hq : IsH ω q hn) (hq1 : IsQ ω q1) (hq2 : IsS ω q2) (hq3 : IsS ω q3) (C : Cx ω p s m args c cX6_burnGiven 5 RX6) (hr : meth.sig.returnType = none) (hk : meth.locks = false) {μo : Mem} {K : Mem → Option Mem} (hK : ∀ (ν : Mem) (H : Heap) (locs : List Loc) (ls : Array Slot), Hd ω ν H → FS ω s H locs → lv_has ls 5 [(1, .ref (wB ω + q1)), (3, .ref (wB ω + q3))] → K ν = some μo → W p l e (rmd 6) s m args below meth c H locs 0 0 (MQ below (QR ω none μo) args s 0 0 (wA ω)) (F0 m 37 ls [])) : ∀ (n : Nat) (x4 : Int32) (μ : Mem) (H : Heap) (locs : List Loc) (ls : Array Slot), Hd ω μ H → FS ω s H locs → lv_has ls 5 [(0, .ref (wB ω + q)), (1, .ref (wB ω + q1)), (3, .ref (wB ω + q3)), (4, .int x4)] → fX6_burnGiven_l8 K q hn q1 q2 q3 n x4 μ = some μo → W p l e (rmd 6) s m args below meth c H locs 0 0 (MQ below (QR ω none μo) args s 0 0 (wA ω)) (F0 m 8 ls []) := by
  intro n
  induction n with
  | zero => intro x4 μ H locs ls hH hS hl h; cases h
  | succ n ih => intro x4 μ H locs ls hH hS hl h; exact wX6_burnGiven_s8 hq hq1 hq2 hq3 C hr hk ih hK hH hS hl h
set_option maxHeartbeats 4000000 in
set_option maxRecDepth 100000 in
theorem wX6_burnGiven_e {q : Nat} {hn : Nat} {q1 : Nat} {q2 : Nat} {q3 : Nat} (hq : IsH ω q hn) (hq1 : IsQ ω q1) (hq2 : IsS ω q2) (hq3 : IsS ω q3) (C : Cx ω p s m args c cX6_burnGiven 5 RX6) (hr : meth.sig.returnType = none) (hk : meth.locks = false) {μo : Mem} {μ : Mem} {H : Heap} {locs : List Loc} {ls : Array Slot} (hH : Hd ω μ H) (hS : FS ω s H locs) (hl : lv_has ls 5 [(0, .ref (wB ω + q)), (1, .ref (wB ω + q1)), (2, .ref (wB ω + q2)), (3, .ref (wB ω + q3))]) (h : fX6_burnGiven q hn q1 q2 q3 μ = some μo) : W p l e (rmd 6) s m args below meth c H locs 0 0 (MQ below (QR ω none μo) args s 0 0 (wA ω)) (F0 m 0 ls []) := by
  have hx := C.1
  have hb := C.2.1
  unfold fX6_burnGiven at h
  refine lv_aload_n hx hb dX6_burnGiven_0 rfl (lv_at hl 3 rfl) ?_
  refine lv_aload_n hx hb dX6_burnGiven_1 rfl (lv_at hl 2 rfl) ?_
  obtain ⟨μ2, e1, h⟩ := b1_e h
  refine cVv (as := [.ref (wB ω + q2)]) (rest := []) (c_X7_copyFrom hq3 hq2 e1) C hl.1 hH hS rfl hq3.1 rfl wd_829 wd_828 mw_X7_copyFrom wd_929 rfl (rm_ok (by decide) (by decide)) (Nat.le_of_ble_eq_true rfl) ⟨Nat.zero_le _, Nat.zero_le _⟩ (by decide) dX6_burnGiven_2 (fun H locs hH hS => ?_)
  refine lv_iconst (v := 0) hx hb dX6_burnGiven_5 (by decide) ?_
  refine lv_istore (lv' := [(4, .int 0), (0, .ref (wB ω + q)), (1, .ref (wB ω + q1)), (2, .ref (wB ω + q2)), (3, .ref (wB ω + q3))]) hx hb dX6_burnGiven_6 hl (by decide) rfl (fun ls hl => ?_)
  refine wX6_burnGiven_l8 hq hq1 hq2 hq3 C hr hk (fun μ6 H locs ls hH hS hl h => ?_) FU _ _ H locs ls hH hS (lv_sub hl [1, 2, 4, 0] rfl) h
  refine lv_aload_n hx hb dX6_burnGiven_37 rfl (lv_at hl 0 rfl) ?_
  refine lv_aload_n hx hb dX6_burnGiven_38 rfl (lv_at hl 1 rfl) ?_
  obtain ⟨μ8, e7, h⟩ := b1_e h
  refine cVv (as := [.ref (wB ω + q3)]) (rest := []) (c_X3_passDay hq1 hq3 e7) C hl.1 hH hS rfl hq1.1 rfl wd_862 wd_861 mw_X3_passDay wd_964 rfl (rm_ok (by decide) (by decide)) (Nat.le_of_ble_eq_true rfl) ⟨Nat.zero_le _, Nat.zero_le _⟩ (by decide) dX6_burnGiven_39 (fun H locs hH hS => ?_)
  refine lv_aload_n hx hb dX6_burnGiven_42 rfl (lv_at hl 1 rfl) ?_
  refine lv_dup hx hb dX6_burnGiven_43 rfl ?_
  refine g_325 C hH hq3.1 dX6_burnGiven_44 ?_
  refine lv_iconst (v := 1) hx hb dX6_burnGiven_47 (by decide) ?_
  refine lv_iadd hx hb dX6_burnGiven_48 ?_
  obtain ⟨μ9, e10, h⟩ := bd_e h
  refine p_325 C hH hS hq3.1 dX6_burnGiven_49 (fun H locs hH hS => ?_)
  have hH := Hd.to e10 hH
  exact h_vret C hr hk hH hS (by cases h; rfl) dX6_burnGiven_52
theorem c_X6_burnGiven {l : Launch} {ω : WW} {q : Nat} {hn : Nat} {q1 : Nat} {q2 : Nat} {q3 : Nat} (hq : IsH ω q hn) (hq1 : IsQ ω q1) (hq2 : IsS ω q2) (hq3 : IsS ω q3) {μ : Mem} {μo : Mem} (h : fX6_burnGiven q hn q1 q2 q3 μ = some μo) : Con l yX6_burnGiven cX6_burnGiven 5 none 6 ω [.ref (wB ω + q), .ref (wB ω + q1), .ref (wB ω + q2), .ref (wB ω + q3)] μ none μo :=
  con_of (by decide) (Nat.le_of_ble_eq_true rfl) (fun p e s m args below meth c ls C hr hk hl hH hS => wX6_burnGiven_e hq hq1 hq2 hq3 C hr hk hH hS (lv_sub hl [0, 1, 2, 3] rfl) h)
set_option maxHeartbeats 4000000 in
set_option maxRecDepth 100000 in
theorem wX6_weigh_b64 {q : Nat} {hn : Nat} {q1 : Nat} {q2 : Nat} (hq : IsH ω q hn) (hq1 : IsQ ω q1) (hq2 : IsS ω q2) (C : Cx ω p s m args c cX6_weigh 8 RX6) (hr : meth.sig.returnType = none) (hk : meth.locks = false) {μo : Mem} {x4 : Int32} {x5 : Int32} {x6 : Int32} {rec : Int32 → Mem → Option Mem} (hrec : ∀ (z6 : Int32) (ν : Mem) (H : Heap) (locs : List Loc) (ls : Array Slot), Hd ω ν H → FS ω s H locs → lv_has ls 8 [(0, .ref (wB ω + q)), (1, .ref (wB ω + q1)), (4, .int x4), (5, .int x5), (6, .int z6)] → rec z6 ν = some μo → W p l e (rmd 5) s m args below meth c H locs 0 0 (MQ below (QR ω none μo) args s 0 0 (wA ω)) (F0 m 41 ls [])) {K : Mem → Option Mem} (hK : ∀ (ν : Mem) (H : Heap) (locs : List Loc) (ls : Array Slot), Hd ω ν H → FS ω s H locs → lv_has ls 8 [(0, .ref (wB ω + q)), (1, .ref (wB ω + q1)), (4, .int x4), (5, .int x5)] → K ν = some μo → W p l e (rmd 5) s m args below meth c H locs 0 0 (MQ below (QR ω none μo) args s 0 0 (wA ω)) (F0 m 90 ls [])) {μ : Mem} {H : Heap} {locs : List Loc} {ls : Array Slot} (hH : Hd ω μ H) (hS : FS ω s H locs) (hl : lv_has ls 8 [(0, .ref (wB ω + q)), (1, .ref (wB ω + q1)), (4, .int x4), (5, .int x5), (6, .int x6)]) (h : fX6_weigh_b64 rec K q hn q1 q2 x4 x5 x6 μ = some μo) : W p l e (rmd 5) s m args below meth c H locs 0 0 (MQ below (QR ω none μo) args s 0 0 (wA ω)) (F0 m 64 ls []) := by
  have hx := C.1
  have hb := C.2.1
  unfold fX6_weigh_b64 at h
  refine lv_aload_n hx hb dX6_weigh_64 rfl (lv_at hl 0 rfl) ?_
  refine g_387 (i := q + 3) C hH hq.1 rfl dX6_weigh_65 ?_
  refine lv_iload hx hb dX6_weigh_68 (lv_at hl 3 rfl) ?_
  obtain ⟨b7, h⟩ := gd_e h
  refine h_aald5 C hH hq.2.2.1.1 hq.2.2.1.2.1 hq.2.2.1.2.2 b7 dX6_weigh_70 ?_
  refine lv_iload hx hb dX6_weigh_71 (lv_at hl 4 rfl) ?_
  refine lv_aload_n hx hb dX6_weigh_73 rfl (lv_at hl 1 rfl) ?_
  refine lv_aload_n hx hb dX6_weigh_74 rfl (lv_at hl 0 rfl) ?_
  refine g_386 (i := q + 1) C hH hq.1 rfl dX6_weigh_75 ?_
  refine lv_iload hx hb dX6_weigh_78 (lv_at hl 3 rfl) ?_
  obtain ⟨r10, μ9, e8, h⟩ := b2_e h
  refine cVi (as := [.ref (wB ω + (q + 1)), .int x5]) (rest := [.int x6, .ref (wB ω + (q + 3 + 1 + x5.toNatClampNeg))]) (c_X3_fades hq1 hq.2.1 e8) C hl.1 hH hS rfl hq1.1 rfl wd_768 wd_767 mw_X3_fades wd_931 rfl (rm_ok (by decide) (by decide)) (Nat.le_of_ble_eq_true rfl) ⟨Nat.zero_le _, Nat.zero_le _⟩ (by decide) dX6_weigh_80 (fun H locs hH hS => ?_)
  obtain ⟨b11, h⟩ := gd_e h
  obtain ⟨μ12, e13, h⟩ := bd_e h
  refine h_iast C hH hS (hq.2.2.2.1 _ (ix_lt b7)).1 (hq.2.2.2.1 _ (ix_lt b7)).2.1 b11 dX6_weigh_83 (fun H locs hH hS => ?_)
  have hH := Hd.to e13 hH
  refine lv_iinc (v := x6 + 1) (lv' := [(6, .int (x6 + 1)), (0, .ref (wB ω + q)), (1, .ref (wB ω + q1)), (4, .int x4), (5, .int x5)]) hx hb dX6_weigh_84 hl (k := 4) rfl rfl (by decide) rfl (fun ls hl => ?_)
  refine lv_goto (tgt := 41) hx hb dX6_weigh_87 (by decide) ?_
  exact hrec _ _ H locs ls hH hS (lv_sub hl [1, 2, 3, 4, 0] rfl) h
set_option maxHeartbeats 4000000 in
set_option maxRecDepth 100000 in
theorem wX6_weigh_s41 {q : Nat} {hn : Nat} {q1 : Nat} {q2 : Nat} (hq : IsH ω q hn) (hq1 : IsQ ω q1) (hq2 : IsS ω q2) (C : Cx ω p s m args c cX6_weigh 8 RX6) (hr : meth.sig.returnType = none) (hk : meth.locks = false) {μo : Mem} {x4 : Int32} {x5 : Int32} {x6 : Int32} {rec : Int32 → Mem → Option Mem} (hrec : ∀ (z6 : Int32) (ν : Mem) (H : Heap) (locs : List Loc) (ls : Array Slot), Hd ω ν H → FS ω s H locs → lv_has ls 8 [(0, .ref (wB ω + q)), (1, .ref (wB ω + q1)), (4, .int x4), (5, .int x5), (6, .int z6)] → rec z6 ν = some μo → W p l e (rmd 5) s m args below meth c H locs 0 0 (MQ below (QR ω none μo) args s 0 0 (wA ω)) (F0 m 41 ls [])) {K : Mem → Option Mem} (hK : ∀ (ν : Mem) (H : Heap) (locs : List Loc) (ls : Array Slot), Hd ω ν H → FS ω s H locs → lv_has ls 8 [(0, .ref (wB ω + q)), (1, .ref (wB ω + q1)), (4, .int x4), (5, .int x5)] → K ν = some μo → W p l e (rmd 5) s m args below meth c H locs 0 0 (MQ below (QR ω none μo) args s 0 0 (wA ω)) (F0 m 90 ls [])) {μ : Mem} {H : Heap} {locs : List Loc} {ls : Array Slot} (hH : Hd ω μ H) (hS : FS ω s H locs) (hl : lv_has ls 8 [(0, .ref (wB ω + q)), (1, .ref (wB ω + q1)), (4, .int x4), (5, .int x5), (6, .int x6)]) (h : fX6_weigh_s41 rec K q hn q1 q2 x4 x5 x6 μ = some μo) : W p l e (rmd 5) s m args below meth c H locs 0 0 (MQ below (QR ω none μo) args s 0 0 (wA ω)) (F0 m 41 ls []) := by
  have hx := C.1
  have hb := C.2.1
  unfold fX6_weigh_s41 at h
  refine lv_iload hx hb dX6_weigh_41 (lv_at hl 4 rfl) ?_
  refine lv_iload hx hb dX6_weigh_43 (lv_at hl 2 rfl) ?_
  refine lv_icmp_gt (tgt := 90) hx hb dX6_weigh_45 (by decide) (fun hc => ?_) (fun hc => ?_)
  · have h := ite_t hc h
    exact hK _ H locs ls hH hS (lv_sub hl [0, 1, 2, 3] rfl) h
  · have h := ite_f hc h
    refine lv_iload hx hb dX6_weigh_48 (lv_at hl 4 rfl) ?_
    refine lv_if_le (tgt := 64) hx hb dX6_weigh_50 (by decide) (fun hc => ?_) (fun hc => ?_)
    · have h := ite_t hc h
      exact wX6_weigh_b64 hq hq1 hq2 C hr hk hrec hK hH hS hl h
    · have h := ite_f hc h
      refine lv_aload_n hx hb dX6_weigh_53 rfl (lv_at hl 1 rfl) ?_
      refine lv_aload_n hx hb dX6_weigh_54 rfl (lv_at hl 0 rfl) ?_
      refine g_386 (i := q + 1) C hH hq.1 rfl dX6_weigh_55 ?_
      refine lv_iload hx hb dX6_weigh_58 (lv_at hl 3 rfl) ?_
      refine lv_iconst (v := 1) hx hb dX6_weigh_60 (by decide) ?_
      obtain ⟨μ15, e14, h⟩ := b1_e h
      refine cVv (as := [.ref (wB ω + (q + 1)), .int x5, .int 1]) (rest := []) (c_X3_burnIn hq1 hq.2.1 e14) C hl.1 hH hS rfl hq1.1 rfl wd_835 wd_834 mw_X3_burnIn wd_930 rfl (rm_ok (by decide) (by decide)) (Nat.le_of_ble_eq_true rfl) ⟨Nat.zero_le _, Nat.zero_le _⟩ (by decide) dX6_weigh_61 (fun H locs hH hS => ?_)
      exact wX6_weigh_b64 hq hq1 hq2 C hr hk hrec hK hH hS hl h
theorem wX6_weigh_l41 {q : Nat} {hn : Nat} {q1 : Nat} {q2 : Nat} (hq : IsH ω q hn) (hq1 : IsQ ω q1) (hq2 : IsS ω q2) (C : Cx ω p s m args c cX6_weigh 8 RX6) (hr : meth.sig.returnType = none) (hk : meth.locks = false) {μo : Mem} {x4 : Int32} {x5 : Int32} {K : Mem → Option Mem} (hK : ∀ (ν : Mem) (H : Heap) (locs : List Loc) (ls : Array Slot), Hd ω ν H → FS ω s H locs → lv_has ls 8 [(0, .ref (wB ω + q)), (1, .ref (wB ω + q1)), (4, .int x4), (5, .int x5)] → K ν = some μo → W p l e (rmd 5) s m args below meth c H locs 0 0 (MQ below (QR ω none μo) args s 0 0 (wA ω)) (F0 m 90 ls [])) : ∀ (n : Nat) (x6 : Int32) (μ : Mem) (H : Heap) (locs : List Loc) (ls : Array Slot), Hd ω μ H → FS ω s H locs → lv_has ls 8 [(0, .ref (wB ω + q)), (1, .ref (wB ω + q1)), (4, .int x4), (5, .int x5), (6, .int x6)] → fX6_weigh_l41 K q hn q1 q2 x4 x5 n x6 μ = some μo → W p l e (rmd 5) s m args below meth c H locs 0 0 (MQ below (QR ω none μo) args s 0 0 (wA ω)) (F0 m 41 ls []) := by
  intro n
  induction n with
  | zero => intro x6 μ H locs ls hH hS hl h; cases h
  | succ n ih => intro x6 μ H locs ls hH hS hl h; exact wX6_weigh_s41 hq hq1 hq2 C hr hk ih hK hH hS hl h
set_option maxHeartbeats 4000000 in
set_option maxRecDepth 100000 in
theorem wX6_weigh_s29 {q : Nat} {hn : Nat} {q1 : Nat} {q2 : Nat} (hq : IsH ω q hn) (hq1 : IsQ ω q1) (hq2 : IsS ω q2) (C : Cx ω p s m args c cX6_weigh 8 RX6) (hr : meth.sig.returnType = none) (hk : meth.locks = false) {μo : Mem} {x4 : Int32} {x5 : Int32} {rec : Int32 → Mem → Option Mem} (hrec : ∀ (z5 : Int32) (ν : Mem) (H : Heap) (locs : List Loc) (ls : Array Slot), Hd ω ν H → FS ω s H locs → lv_has ls 8 [(0, .ref (wB ω + q)), (1, .ref (wB ω + q1)), (4, .int x4), (5, .int z5)] → rec z5 ν = some μo → W p l e (rmd 5) s m args below meth c H locs 0 0 (MQ below (QR ω none μo) args s 0 0 (wA ω)) (F0 m 29 ls [])) {K : Mem → Option Mem} (hK : ∀ (ν : Mem) (H : Heap) (locs : List Loc) (ls : Array Slot), Hd ω ν H → FS ω s H locs → lv_has ls 8 [(0, .ref (wB ω + q)), (4, .int x4)] → K ν = some μo → W p l e (rmd 5) s m args below meth c H locs 0 0 (MQ below (QR ω none μo) args s 0 0 (wA ω)) (F0 m 96 ls [])) {μ : Mem} {H : Heap} {locs : List Loc} {ls : Array Slot} (hH : Hd ω μ H) (hS : FS ω s H locs) (hl : lv_has ls 8 [(0, .ref (wB ω + q)), (1, .ref (wB ω + q1)), (4, .int x4), (5, .int x5)]) (h : fX6_weigh_s29 rec K q hn q1 q2 x4 x5 μ = some μo) : W p l e (rmd 5) s m args below meth c H locs 0 0 (MQ below (QR ω none μo) args s 0 0 (wA ω)) (F0 m 29 ls []) := by
  have hx := C.1
  have hb := C.2.1
  unfold fX6_weigh_s29 at h
  refine lv_iload hx hb dX6_weigh_29 (lv_at hl 3 rfl) ?_
  refine lv_aload_n hx hb dX6_weigh_31 rfl (lv_at hl 0 rfl) ?_
  refine g_390 C hH hq.1 dX6_weigh_32 ?_
  refine lv_icmp_ge (tgt := 96) hx hb dX6_weigh_35 (by decide) (fun hc => ?_) (fun hc => ?_)
  · have h := ite_t hc h
    exact hK _ H locs ls hH hS (lv_sub hl [0, 2] rfl) h
  · have h := ite_f hc h
    refine lv_iconst (v := 0) hx hb dX6_weigh_38 (by decide) ?_
    refine lv_istore (lv' := [(6, .int 0), (0, .ref (wB ω + q)), (1, .ref (wB ω + q1)), (4, .int x4), (5, .int x5)]) hx hb dX6_weigh_39 hl (by decide) rfl (fun ls hl => ?_)
    refine wX6_weigh_l41 hq hq1 hq2 C hr hk (fun μ16 H locs ls hH hS hl h => ?_) FU _ _ H locs ls hH hS (lv_sub hl [1, 2, 3, 4, 0] rfl) h
    refine lv_iinc (v := x5 + 1) (lv' := [(5, .int (x5 + 1)), (0, .ref (wB ω + q)), (1, .ref (wB ω + q1)), (4, .int x4)]) hx hb dX6_weigh_90 hl (k := 3) rfl rfl (by decide) rfl (fun ls hl => ?_)
    refine lv_goto (tgt := 29) hx hb dX6_weigh_93 (by decide) ?_
    exact hrec _ _ H locs ls hH hS (lv_sub hl [1, 2, 3, 0] rfl) h
theorem wX6_weigh_l29 {q : Nat} {hn : Nat} {q1 : Nat} {q2 : Nat} (hq : IsH ω q hn) (hq1 : IsQ ω q1) (hq2 : IsS ω q2) (C : Cx ω p s m args c cX6_weigh 8 RX6) (hr : meth.sig.returnType = none) (hk : meth.locks = false) {μo : Mem} {x4 : Int32} {K : Mem → Option Mem} (hK : ∀ (ν : Mem) (H : Heap) (locs : List Loc) (ls : Array Slot), Hd ω ν H → FS ω s H locs → lv_has ls 8 [(0, .ref (wB ω + q)), (4, .int x4)] → K ν = some μo → W p l e (rmd 5) s m args below meth c H locs 0 0 (MQ below (QR ω none μo) args s 0 0 (wA ω)) (F0 m 96 ls [])) : ∀ (n : Nat) (x5 : Int32) (μ : Mem) (H : Heap) (locs : List Loc) (ls : Array Slot), Hd ω μ H → FS ω s H locs → lv_has ls 8 [(0, .ref (wB ω + q)), (1, .ref (wB ω + q1)), (4, .int x4), (5, .int x5)] → fX6_weigh_l29 K q hn q1 q2 x4 n x5 μ = some μo → W p l e (rmd 5) s m args below meth c H locs 0 0 (MQ below (QR ω none μo) args s 0 0 (wA ω)) (F0 m 29 ls []) := by
  intro n
  induction n with
  | zero => intro x5 μ H locs ls hH hS hl h; cases h
  | succ n ih => intro x5 μ H locs ls hH hS hl h; exact wX6_weigh_s29 hq hq1 hq2 C hr hk ih hK hH hS hl h
set_option maxHeartbeats 4000000 in
set_option maxRecDepth 100000 in
theorem wX6_weigh_s99 {q : Nat} {hn : Nat} {q1 : Nat} {q2 : Nat} (hq : IsH ω q hn) (hq1 : IsQ ω q1) (hq2 : IsS ω q2) (C : Cx ω p s m args c cX6_weigh 8 RX6) (hr : meth.sig.returnType = none) (hk : meth.locks = false) {μo : Mem} {x4 : Int32} {x5 : Int32} {rec : Int32 → Mem → Option Mem} (hrec : ∀ (z5 : Int32) (ν : Mem) (H : Heap) (locs : List Loc) (ls : Array Slot), Hd ω ν H → FS ω s H locs → lv_has ls 8 [(0, .ref (wB ω + q)), (4, .int x4), (5, .int z5)] → rec z5 ν = some μo → W p l e (rmd 5) s m args below meth c H locs 0 0 (MQ below (QR ω none μo) args s 0 0 (wA ω)) (F0 m 99 ls [])) {K : Mem → Option Mem} (hK : ∀ (ν : Mem) (H : Heap) (locs : List Loc) (ls : Array Slot), Hd ω ν H → FS ω s H locs → lv_has ls 8 [(0, .ref (wB ω + q)), (4, .int x4)] → K ν = some μo → W p l e (rmd 5) s m args below meth c H locs 0 0 (MQ below (QR ω none μo) args s 0 0 (wA ω)) (F0 m 125 ls [])) {μ : Mem} {H : Heap} {locs : List Loc} {ls : Array Slot} (hH : Hd ω μ H) (hS : FS ω s H locs) (hl : lv_has ls 8 [(0, .ref (wB ω + q)), (4, .int x4), (5, .int x5)]) (h : fX6_weigh_s99 rec K q hn q1 q2 x4 x5 μ = some μo) : W p l e (rmd 5) s m args below meth c H locs 0 0 (MQ below (QR ω none μo) args s 0 0 (wA ω)) (F0 m 99 ls []) := by
  have hx := C.1
  have hb := C.2.1
  unfold fX6_weigh_s99 at h
  refine lv_iload hx hb dX6_weigh_99 (lv_at hl 2 rfl) ?_
  refine lv_iload hx hb dX6_weigh_101 (lv_at hl 1 rfl) ?_
  refine lv_icmp_gt (tgt := 125) hx hb dX6_weigh_103 (by decide) (fun hc => ?_) (fun hc => ?_)
  · have h := ite_t hc h
    exact hK _ H locs ls hH hS (lv_sub hl [0, 1] rfl) h
  · have h := ite_f hc h
    refine lv_aload_n hx hb dX6_weigh_106 rfl (lv_at hl 0 rfl) ?_
    refine g_388 (i := q + 10) C hH hq.1 rfl dX6_weigh_107 ?_
    refine lv_aload_n hx hb dX6_weigh_110 rfl (lv_at hl 0 rfl) ?_
    refine g_390 C hH hq.1 dX6_weigh_111 ?_
    obtain ⟨b18, h⟩ := gd_e h
    refine h_aald5 C hH hq.2.2.2.2.1.1 hq.2.2.2.2.1.2.1 hq.2.2.2.2.1.2.2 b18 dX6_weigh_114 ?_
    refine lv_iload hx hb dX6_weigh_115 (lv_at hl 2 rfl) ?_
    refine lv_iconst (v := 0) hx hb dX6_weigh_117 (by decide) ?_
    obtain ⟨b19, h⟩ := gd_e h
    obtain ⟨μ20, e21, h⟩ := bd_e h
    refine h_iast C hH hS (hq.2.2.2.2.2.1 _ (ix_lt b18)).1 (hq.2.2.2.2.2.1 _ (ix_lt b18)).2.1 b19 dX6_weigh_118 (fun H locs hH hS => ?_)
    have hH := Hd.to e21 hH
    refine lv_iinc (v := x5 + 1) (lv' := [(5, .int (x5 + 1)), (0, .ref (wB ω + q)), (4, .int x4)]) hx hb dX6_weigh_119 hl (k := 2) rfl rfl (by decide) rfl (fun ls hl => ?_)
    refine lv_goto (tgt := 99) hx hb dX6_weigh_122 (by decide) ?_
    exact hrec _ _ H locs ls hH hS (lv_sub hl [1, 2, 0] rfl) h
theorem wX6_weigh_l99 {q : Nat} {hn : Nat} {q1 : Nat} {q2 : Nat} (hq : IsH ω q hn) (hq1 : IsQ ω q1) (hq2 : IsS ω q2) (C : Cx ω p s m args c cX6_weigh 8 RX6) (hr : meth.sig.returnType = none) (hk : meth.locks = false) {μo : Mem} {x4 : Int32} {K : Mem → Option Mem} (hK : ∀ (ν : Mem) (H : Heap) (locs : List Loc) (ls : Array Slot), Hd ω ν H → FS ω s H locs → lv_has ls 8 [(0, .ref (wB ω + q)), (4, .int x4)] → K ν = some μo → W p l e (rmd 5) s m args below meth c H locs 0 0 (MQ below (QR ω none μo) args s 0 0 (wA ω)) (F0 m 125 ls [])) : ∀ (n : Nat) (x5 : Int32) (μ : Mem) (H : Heap) (locs : List Loc) (ls : Array Slot), Hd ω μ H → FS ω s H locs → lv_has ls 8 [(0, .ref (wB ω + q)), (4, .int x4), (5, .int x5)] → fX6_weigh_l99 K q hn q1 q2 x4 n x5 μ = some μo → W p l e (rmd 5) s m args below meth c H locs 0 0 (MQ below (QR ω none μo) args s 0 0 (wA ω)) (F0 m 99 ls []) := by
  intro n
  induction n with
  | zero => intro x5 μ H locs ls hH hS hl h; cases h
  | succ n ih => intro x5 μ H locs ls hH hS hl h; exact wX6_weigh_s99 hq hq1 hq2 C hr hk ih hK hH hS hl h
set_option maxHeartbeats 4000000 in
set_option maxRecDepth 100000 in
theorem wX6_weigh_s141 {q : Nat} {hn : Nat} {q1 : Nat} {q2 : Nat} (hq : IsH ω q hn) (hq1 : IsQ ω q1) (hq2 : IsS ω q2) (C : Cx ω p s m args c cX6_weigh 8 RX6) (hr : meth.sig.returnType = none) (hk : meth.locks = false) {μo : Mem} {x4 : Int32} {x5 : Int32} {x6 : Int32} {rec : Int32 → Mem → Option Mem} (hrec : ∀ (z6 : Int32) (ν : Mem) (H : Heap) (locs : List Loc) (ls : Array Slot), Hd ω ν H → FS ω s H locs → lv_has ls 8 [(0, .ref (wB ω + q)), (4, .int x4), (5, .int x5), (6, .int z6)] → rec z6 ν = some μo → W p l e (rmd 5) s m args below meth c H locs 0 0 (MQ below (QR ω none μo) args s 0 0 (wA ω)) (F0 m 141 ls [])) {K : Mem → Option Mem} (hK : ∀ (ν : Mem) (H : Heap) (locs : List Loc) (ls : Array Slot), Hd ω ν H → FS ω s H locs → lv_has ls 8 [(0, .ref (wB ω + q)), (4, .int x4), (5, .int x5)] → K ν = some μo → W p l e (rmd 5) s m args below meth c H locs 0 0 (MQ below (QR ω none μo) args s 0 0 (wA ω)) (F0 m 200 ls [])) {μ : Mem} {H : Heap} {locs : List Loc} {ls : Array Slot} (hH : Hd ω μ H) (hS : FS ω s H locs) (hl : lv_has ls 8 [(0, .ref (wB ω + q)), (4, .int x4), (5, .int x5), (6, .int x6)]) (h : fX6_weigh_s141 rec K q hn q1 q2 x4 x5 x6 μ = some μo) : W p l e (rmd 5) s m args below meth c H locs 0 0 (MQ below (QR ω none μo) args s 0 0 (wA ω)) (F0 m 141 ls []) := by
  have hx := C.1
  have hb := C.2.1
  unfold fX6_weigh_s141 at h
  refine lv_iload hx hb dX6_weigh_141 (lv_at hl 3 rfl) ?_
  refine lv_iload hx hb dX6_weigh_143 (lv_at hl 1 rfl) ?_
  refine lv_icmp_gt (tgt := 200) hx hb dX6_weigh_145 (by decide) (fun hc => ?_) (fun hc => ?_)
  · have h := ite_t hc h
    exact hK _ H locs ls hH hS (lv_sub hl [0, 1, 2] rfl) h
  · have h := ite_f hc h
    refine lv_aload_n hx hb dX6_weigh_148 rfl (lv_at hl 0 rfl) ?_
    refine lv_iload hx hb dX6_weigh_149 (lv_at hl 2 rfl) ?_
    refine lv_iload hx hb dX6_weigh_151 (lv_at hl 3 rfl) ?_
    obtain ⟨r26, e25, h⟩ := b1_e h
    refine cVi (as := [.int x5, .int x6]) (rest := []) (c_X6_fewestBest hq e25) C hl.1 hH hS rfl hq.1 rfl wd_18 wd_934 mw_X6_fewestBest wd_932 rfl (rm_ok (by decide) (by decide)) (Nat.le_of_ble_eq_true rfl) ⟨Nat.zero_le _, Nat.zero_le _⟩ (by decide) dX6_weigh_153 (fun H locs hH hS => ?_)
    refine lv_istore (lv' := [(7, .int r26), (0, .ref (wB ω + q)), (4, .int x4), (5, .int x5), (6, .int x6)]) hx hb dX6_weigh_156 hl (by decide) rfl (fun ls hl => ?_)
    refine lv_aload_n hx hb dX6_weigh_158 rfl (lv_at hl 1 rfl) ?_
    refine g_388 (i := q + 10) C hH hq.1 rfl dX6_weigh_159 ?_
    refine lv_iload hx hb dX6_weigh_162 (lv_at hl 3 rfl) ?_
    obtain ⟨b27, h⟩ := gd_e h
    refine h_aald5 C hH hq.2.2.2.2.1.1 hq.2.2.2.2.1.2.1 hq.2.2.2.2.1.2.2 b27 dX6_weigh_164 ?_
    refine lv_iload hx hb dX6_weigh_165 (lv_at hl 4 rfl) ?_
    refine lv_aload_n hx hb dX6_weigh_167 rfl (lv_at hl 1 rfl) ?_
    refine g_387 (i := q + 3) C hH hq.1 rfl dX6_weigh_168 ?_
    refine lv_iload hx hb dX6_weigh_171 (lv_at hl 3 rfl) ?_
    obtain ⟨b28, h⟩ := gd_e h
    refine h_aald5 C hH hq.2.2.1.1 hq.2.2.1.2.1 hq.2.2.1.2.2 b28 dX6_weigh_173 ?_
    refine lv_iload hx hb dX6_weigh_174 (lv_at hl 0 rfl) ?_
    obtain ⟨b29, h⟩ := gd_e h
    refine h_iald C hH (hq.2.2.2.1 _ (ix_lt b28)).1 (hq.2.2.2.1 _ (ix_lt b28)).2.1 b29 dX6_weigh_176 ?_
    refine lv_aload_n hx hb dX6_weigh_177 rfl (lv_at hl 1 rfl) ?_
    refine g_388 (i := q + 10) C hH hq.1 rfl dX6_weigh_178 ?_
    refine lv_iload hx hb dX6_weigh_181 (lv_at hl 3 rfl) ?_
    refine lv_iconst (v := 1) hx hb dX6_weigh_183 (by decide) ?_
    refine lv_iadd hx hb dX6_weigh_184 ?_
    obtain ⟨b30, h⟩ := gd_e h
    refine h_aald5 C hH hq.2.2.2.2.1.1 hq.2.2.2.2.1.2.1 hq.2.2.2.2.1.2.2 b30 dX6_weigh_185 ?_
    refine lv_iload hx hb dX6_weigh_186 (lv_at hl 4 rfl) ?_
    refine lv_iload hx hb dX6_weigh_188 (lv_at hl 0 rfl) ?_
    refine lv_isub hx hb dX6_weigh_190 ?_
    obtain ⟨b31, h⟩ := gd_e h
    refine h_iald C hH (hq.2.2.2.2.2.1 _ (ix_lt b30)).1 (hq.2.2.2.2.2.1 _ (ix_lt b30)).2.1 b31 dX6_weigh_191 ?_
    refine lv_iadd hx hb dX6_weigh_192 ?_
    obtain ⟨b32, h⟩ := gd_e h
    obtain ⟨μ33, e34, h⟩ := bd_e h
    refine h_iast C hH hS (hq.2.2.2.2.2.1 _ (ix_lt b27)).1 (hq.2.2.2.2.2.1 _ (ix_lt b27)).2.1 b32 dX6_weigh_193 (fun H locs hH hS => ?_)
    have hH := Hd.to e34 hH
    refine lv_iinc (v := x6 + 1) (lv' := [(6, .int (x6 + 1)), (7, .int r26), (0, .ref (wB ω + q)), (4, .int x4), (5, .int x5)]) hx hb dX6_weigh_194 hl (k := 4) rfl rfl (by decide) rfl (fun ls hl => ?_)
    refine lv_goto (tgt := 141) hx hb dX6_weigh_197 (by decide) ?_
    exact hrec _ _ H locs ls hH hS (lv_sub hl [2, 3, 4, 0] rfl) h
theorem wX6_weigh_l141 {q : Nat} {hn : Nat} {q1 : Nat} {q2 : Nat} (hq : IsH ω q hn) (hq1 : IsQ ω q1) (hq2 : IsS ω q2) (C : Cx ω p s m args c cX6_weigh 8 RX6) (hr : meth.sig.returnType = none) (hk : meth.locks = false) {μo : Mem} {x4 : Int32} {x5 : Int32} {K : Mem → Option Mem} (hK : ∀ (ν : Mem) (H : Heap) (locs : List Loc) (ls : Array Slot), Hd ω ν H → FS ω s H locs → lv_has ls 8 [(0, .ref (wB ω + q)), (4, .int x4), (5, .int x5)] → K ν = some μo → W p l e (rmd 5) s m args below meth c H locs 0 0 (MQ below (QR ω none μo) args s 0 0 (wA ω)) (F0 m 200 ls [])) : ∀ (n : Nat) (x6 : Int32) (μ : Mem) (H : Heap) (locs : List Loc) (ls : Array Slot), Hd ω μ H → FS ω s H locs → lv_has ls 8 [(0, .ref (wB ω + q)), (4, .int x4), (5, .int x5), (6, .int x6)] → fX6_weigh_l141 K q hn q1 q2 x4 x5 n x6 μ = some μo → W p l e (rmd 5) s m args below meth c H locs 0 0 (MQ below (QR ω none μo) args s 0 0 (wA ω)) (F0 m 141 ls []) := by
  intro n
  induction n with
  | zero => intro x6 μ H locs ls hH hS hl h; cases h
  | succ n ih => intro x6 μ H locs ls hH hS hl h; exact wX6_weigh_s141 hq hq1 hq2 C hr hk ih hK hH hS hl h
set_option maxHeartbeats 4000000 in
set_option maxRecDepth 100000 in
theorem wX6_weigh_s133 {q : Nat} {hn : Nat} {q1 : Nat} {q2 : Nat} (hq : IsH ω q hn) (hq1 : IsQ ω q1) (hq2 : IsS ω q2) (C : Cx ω p s m args c cX6_weigh 8 RX6) (hr : meth.sig.returnType = none) (hk : meth.locks = false) {μo : Mem} {x4 : Int32} {x5 : Int32} {rec : Int32 → Mem → Option Mem} (hrec : ∀ (z5 : Int32) (ν : Mem) (H : Heap) (locs : List Loc) (ls : Array Slot), Hd ω ν H → FS ω s H locs → lv_has ls 8 [(0, .ref (wB ω + q)), (4, .int x4), (5, .int z5)] → rec z5 ν = some μo → W p l e (rmd 5) s m args below meth c H locs 0 0 (MQ below (QR ω none μo) args s 0 0 (wA ω)) (F0 m 133 ls [])) {μ : Mem} {H : Heap} {locs : List Loc} {ls : Array Slot} (hH : Hd ω μ H) (hS : FS ω s H locs) (hl : lv_has ls 8 [(0, .ref (wB ω + q)), (4, .int x4), (5, .int x5)]) (h : fX6_weigh_s133 rec q hn q1 q2 x4 x5 μ = some μo) : W p l e (rmd 5) s m args below meth c H locs 0 0 (MQ below (QR ω none μo) args s 0 0 (wA ω)) (F0 m 133 ls []) := by
  have hx := C.1
  have hb := C.2.1
  unfold fX6_weigh_s133 at h
  refine lv_iload hx hb dX6_weigh_133 (lv_at hl 2 rfl) ?_
  refine lv_if_lt (tgt := 206) hx hb dX6_weigh_135 (by decide) (fun hc => ?_) (fun hc => ?_)
  · have h := ite_t hc h
    exact h_vret C hr hk hH hS (by cases h; rfl) dX6_weigh_206
  · have h := ite_f hc h
    refine lv_iconst (v := 0) hx hb dX6_weigh_138 (by decide) ?_
    refine lv_istore (lv' := [(6, .int 0), (0, .ref (wB ω + q)), (4, .int x4), (5, .int x5)]) hx hb dX6_weigh_139 hl (by decide) rfl (fun ls hl => ?_)
    refine wX6_weigh_l141 hq hq1 hq2 C hr hk (fun μ35 H locs ls hH hS hl h => ?_) FU _ _ H locs ls hH hS (lv_sub hl [1, 2, 3, 0] rfl) h
    refine lv_iinc (v := x5 + (-1)) (lv' := [(5, .int (x5 + (-1))), (0, .ref (wB ω + q)), (4, .int x4)]) hx hb dX6_weigh_200 hl (k := 2) rfl rfl (by decide) rfl (fun ls hl => ?_)
    refine lv_goto (tgt := 133) hx hb dX6_weigh_203 (by decide) ?_
    exact hrec _ _ H locs ls hH hS (lv_sub hl [1, 2, 0] rfl) h
theorem wX6_weigh_l133 {q : Nat} {hn : Nat} {q1 : Nat} {q2 : Nat} (hq : IsH ω q hn) (hq1 : IsQ ω q1) (hq2 : IsS ω q2) (C : Cx ω p s m args c cX6_weigh 8 RX6) (hr : meth.sig.returnType = none) (hk : meth.locks = false) {μo : Mem} {x4 : Int32} : ∀ (n : Nat) (x5 : Int32) (μ : Mem) (H : Heap) (locs : List Loc) (ls : Array Slot), Hd ω μ H → FS ω s H locs → lv_has ls 8 [(0, .ref (wB ω + q)), (4, .int x4), (5, .int x5)] → fX6_weigh_l133 q hn q1 q2 x4 n x5 μ = some μo → W p l e (rmd 5) s m args below meth c H locs 0 0 (MQ below (QR ω none μo) args s 0 0 (wA ω)) (F0 m 133 ls []) := by
  intro n
  induction n with
  | zero => intro x5 μ H locs ls hH hS hl h; cases h
  | succ n ih => intro x5 μ H locs ls hH hS hl h; exact wX6_weigh_s133 hq hq1 hq2 C hr hk ih hH hS hl h
set_option maxHeartbeats 4000000 in
set_option maxRecDepth 100000 in
theorem wX6_weigh_e {q : Nat} {hn : Nat} {q1 : Nat} {q2 : Nat} (hq : IsH ω q hn) (hq1 : IsQ ω q1) (hq2 : IsS ω q2) (C : Cx ω p s m args c cX6_weigh 8 RX6) (hr : meth.sig.returnType = none) (hk : meth.locks = false) {μo : Mem} {x3 : Int32} {μ : Mem} {H : Heap} {locs : List Loc} {ls : Array Slot} (hH : Hd ω μ H) (hS : FS ω s H locs) (hl : lv_has ls 8 [(0, .ref (wB ω + q)), (1, .ref (wB ω + q1)), (2, .ref (wB ω + q2)), (3, .int x3)]) (h : fX6_weigh q hn q1 q2 x3 μ = some μo) : W p l e (rmd 5) s m args below meth c H locs 0 0 (MQ below (QR ω none μo) args s 0 0 (wA ω)) (F0 m 0 ls []) := by
  have hx := C.1
  have hb := C.2.1
  unfold fX6_weigh at h
  refine lv_iload_n hx hb dX6_weigh_0 rfl (lv_at hl 3 rfl) ?_
  refine lv_aload_n hx hb dX6_weigh_1 rfl (lv_at hl 0 rfl) ?_
  refine g_385 C hH hq.1 dX6_weigh_2 ?_
  refine h_mmin C hl.1 wd_928 (rest := []) (Nat.le_of_ble_eq_true rfl) (Nat.le_of_ble_eq_true rfl) ⟨Nat.zero_le _, Nat.zero_le _⟩ dX6_weigh_5 ?_
  refine h_topi (y := jmin x3 (μ.1 q 0)) rfl ?_
  obtain ⟨y1, e2, h⟩ := bd_e h
  refine h_topi e2 ?_
  refine lv_istore (lv' := [(4, .int y1), (0, .ref (wB ω + q)), (1, .ref (wB ω + q1)), (2, .ref (wB ω + q2)), (3, .int x3)]) hx hb dX6_weigh_8 hl (by decide) rfl (fun ls hl => ?_)
  refine lv_aload_n hx hb dX6_weigh_10 rfl (lv_at hl 1 rfl) ?_
  refine lv_aload_n hx hb dX6_weigh_11 rfl (lv_at hl 2 rfl) ?_
  refine g_262 C hH hq1.1 dX6_weigh_12 ?_
  obtain ⟨μ3, e4, h⟩ := bd_e h
  refine p_390 C hH hS hq.1 dX6_weigh_15 (fun H locs hH hS => ?_)
  have hH := Hd.to e4 hH
  refine lv_aload_n hx hb dX6_weigh_18 rfl (lv_at hl 1 rfl) ?_
  refine g_386 (i := q + 1) C hH hq.1 rfl dX6_weigh_19 ?_
  refine lv_aload_n hx hb dX6_weigh_22 rfl (lv_at hl 3 rfl) ?_
  obtain ⟨μ6, e5, h⟩ := b1_e h
  refine cVv (as := [.ref (wB ω + q2)]) (rest := []) (c_X7_copyFrom hq.2.1 hq2 e5) C hl.1 hH hS rfl hq.2.1.1 rfl wd_829 wd_828 mw_X7_copyFrom wd_929 rfl (rm_ok (by decide) (by decide)) (Nat.le_of_ble_eq_true rfl) ⟨Nat.zero_le _, Nat.zero_le _⟩ (by decide) dX6_weigh_23 (fun H locs hH hS => ?_)
  refine lv_iconst (v := 0) hx hb dX6_weigh_26 (by decide) ?_
  refine lv_istore (lv' := [(5, .int 0), (4, .int y1), (0, .ref (wB ω + q)), (1, .ref (wB ω + q1)), (2, .ref (wB ω + q2)), (3, .int x3)]) hx hb dX6_weigh_27 hl (by decide) rfl (fun ls hl => ?_)
  refine wX6_weigh_l29 hq hq1 hq2 C hr hk (fun μ17 H locs ls hH hS hl h => ?_) FU _ _ H locs ls hH hS (lv_sub hl [2, 3, 1, 0] rfl) h
  refine lv_iconst (v := 0) hx hb dX6_weigh_96 (by decide) ?_
  refine lv_istore (lv' := [(5, .int 0), (0, .ref (wB ω + q)), (4, .int y1)]) hx hb dX6_weigh_97 hl (by decide) rfl (fun ls hl => ?_)
  refine wX6_weigh_l99 hq hq1 hq2 C hr hk (fun μ22 H locs ls hH hS hl h => ?_) FU _ _ H locs ls hH hS (lv_sub hl [1, 2, 0] rfl) h
  refine lv_aload_n hx hb dX6_weigh_125 rfl (lv_at hl 0 rfl) ?_
  refine g_390 C hH hq.1 dX6_weigh_126 ?_
  refine lv_iconst (v := 1) hx hb dX6_weigh_129 (by decide) ?_
  refine lv_isub hx hb dX6_weigh_130 ?_
  obtain ⟨y23, e24, h⟩ := bd_e h
  refine h_topi e24 ?_
  refine lv_istore (lv' := [(5, .int y23), (0, .ref (wB ω + q)), (4, .int y1)]) hx hb dX6_weigh_131 hl (by decide) rfl (fun ls hl => ?_)
  exact wX6_weigh_l133 hq hq1 hq2 C hr hk FU _ _ H locs ls hH hS (lv_sub hl [1, 2, 0] rfl) h
theorem c_X6_weigh {l : Launch} {ω : WW} {q : Nat} {hn : Nat} {q1 : Nat} {q2 : Nat} {x3 : Int32} (hq : IsH ω q hn) (hq1 : IsQ ω q1) (hq2 : IsS ω q2) {μ : Mem} {μo : Mem} (h : fX6_weigh q hn q1 q2 x3 μ = some μo) : Con l yX6_weigh cX6_weigh 8 none 5 ω [.ref (wB ω + q), .ref (wB ω + q1), .ref (wB ω + q2), .int x3] μ none μo :=
  con_of (by decide) (Nat.le_of_ble_eq_true rfl) (fun p e s m args below meth c ls C hr hk hl hH hS => wX6_weigh_e hq hq1 hq2 C hr hk hH hS (lv_sub hl [0, 1, 2, 3] rfl) h)
set_option maxHeartbeats 4000000 in
set_option maxRecDepth 100000 in
theorem wX6_leastLoss_e {q : Nat} {hn : Nat} (hq : IsH ω q hn) (C : Cx ω p s m args c cX6_leastLoss 2 RX6) (hr : meth.sig.returnType = some .int) (hk : meth.locks = false) {rr : Int32} {μ : Mem} {x1 : Int32} {H : Heap} {locs : List Loc} {ls : Array Slot} (hH : Hd ω μ H) (hS : FS ω s H locs) (hl : lv_has ls 2 [(0, .ref (wB ω + q)), (1, .int x1)]) (h : fX6_leastLoss q hn x1 μ = some rr) : W p l e (rmd 1) s m args below meth c H locs 0 0 (MQ below (QR ω (some (.int rr)) μ) args s 0 0 (wA ω)) (F0 m 0 ls []) := by
  have hx := C.1
  have hb := C.2.1
  unfold fX6_leastLoss at h
  refine lv_iload_n hx hb dX6_leastLoss_0 rfl (lv_at hl 1 rfl) ?_
  refine lv_if_lt (tgt := 23) hx hb dX6_leastLoss_1 (by decide) (fun hc => ?_) (fun hc => ?_)
  · have h := ite_t hc h
    refine lv_iconst (v := 0) hx hb dX6_leastLoss_23 (by decide) ?_
    exact h_iret C hr hk hH hS rfl (by cases h; rfl) dX6_leastLoss_24
  · have h := ite_f hc h
    refine lv_iload_n hx hb dX6_leastLoss_4 rfl (lv_at hl 1 rfl) ?_
    refine lv_aload_n hx hb dX6_leastLoss_5 rfl (lv_at hl 0 rfl) ?_
    refine g_385 C hH hq.1 dX6_leastLoss_6 ?_
    refine lv_icmp_gt (tgt := 23) hx hb dX6_leastLoss_9 (by decide) (fun hc => ?_) (fun hc => ?_)
    · have h := ite_t hc h
      refine lv_iconst (v := 0) hx hb dX6_leastLoss_23 (by decide) ?_
      exact h_iret C hr hk hH hS rfl (by cases h; rfl) dX6_leastLoss_24
    · have h := ite_f hc h
      refine lv_aload_n hx hb dX6_leastLoss_12 rfl (lv_at hl 0 rfl) ?_
      refine g_388 (i := q + 10) C hH hq.1 rfl dX6_leastLoss_13 ?_
      refine lv_iconst (v := 0) hx hb dX6_leastLoss_16 (by decide) ?_
      refine h_aald5 C hH hq.2.2.2.2.1.1 hq.2.2.2.2.1.2.1 hq.2.2.2.2.1.2.2 (show ix 0 7 = true by decide) dX6_leastLoss_17 ?_
      refine lv_iload_n hx hb dX6_leastLoss_18 rfl (lv_at hl 1 rfl) ?_
      obtain ⟨b1, h⟩ := gd_e h
      refine h_iald C hH (hq.2.2.2.2.2.1 _ (ix_lt (show ix 0 7 = true by decide))).1 (hq.2.2.2.2.2.1 _ (ix_lt (show ix 0 7 = true by decide))).2.1 b1 dX6_leastLoss_19 ?_
      refine lv_goto (tgt := 24) hx hb dX6_leastLoss_20 (by decide) ?_
      exact h_iret C hr hk hH hS rfl (by cases h; rfl) dX6_leastLoss_24
theorem c_X6_leastLoss {l : Launch} {ω : WW} {q : Nat} {hn : Nat} {x1 : Int32} (hq : IsH ω q hn) {μ : Mem} {rr : Int32} (h : fX6_leastLoss q hn x1 μ = some rr) : Con l yX6_leastLoss cX6_leastLoss 2 (some .int) 1 ω [.ref (wB ω + q), .int x1] μ (some (.int rr)) μ :=
  con_of (by decide) (Nat.le_of_ble_eq_true rfl) (fun p e s m args below meth c ls C hr hk hl hH hS => wX6_leastLoss_e hq C hr hk hH hS (lv_sub hl [0, 1] rfl) h)
set_option maxHeartbeats 4000000 in
set_option maxRecDepth 100000 in
theorem wX11_keptByPlan_e (hW : FWC ω) (C : Cx ω p s m args c cX11_keptByPlan 3 RX11) (hr : meth.sig.returnType = some .int) (hk : meth.locks = false) {rr : Int32} {μo : Mem} {x1 : Int32} {x2 : Int32} {μ : Mem} {H : Heap} {locs : List Loc} {ls : Array Slot} (hH : Hd ω μ H) (hS : FS ω s H locs) (hl : lv_has ls 3 [(0, .ref (wB ω + 1)), (1, .int x1), (2, .int x2)]) (h : fX11_keptByPlan x1 x2 μ = some (rr, μo)) : W p l e (rmd 7) s m args below meth c H locs 0 0 (MQ below (QR ω (some (.int rr)) μo) args s 0 0 (wA ω)) (F0 m 0 ls []) := by
  have hx := C.1
  have hb := C.2.1
  unfold fX11_keptByPlan at h
  refine lv_aload_n hx hb dX11_keptByPlan_0 rfl (lv_at hl 0 rfl) ?_
  refine g_482 (i := 139) C hH (jC_1 hW) rfl dX11_keptByPlan_1 ?_
  refine lv_iload_n hx hb dX11_keptByPlan_4 rfl (lv_at hl 1 rfl) ?_
  obtain ⟨μ2, e1, h⟩ := b1_e h
  refine cVv (as := [.int x1]) (rest := []) (c_X6_shareOut (hC_139 hW) e1) C hl.1 hH hS rfl (jC_139 hW) rfl wd_942 wd_941 mw_X6_shareOut wd_940 rfl (rm_ok (by decide) (by decide)) (Nat.le_of_ble_eq_true rfl) ⟨Nat.zero_le _, Nat.zero_le _⟩ (by decide) dX11_keptByPlan_5 (fun H locs hH hS => ?_)
  refine lv_aload_n hx hb dX11_keptByPlan_8 rfl (lv_at hl 0 rfl) ?_
  refine g_482 (i := 139) C hH (jC_1 hW) rfl dX11_keptByPlan_9 ?_
  refine lv_aload_n hx hb dX11_keptByPlan_12 rfl (lv_at hl 0 rfl) ?_
  refine g_476 (i := 17) C hH (jC_1 hW) rfl dX11_keptByPlan_13 ?_
  refine lv_aload_n hx hb dX11_keptByPlan_16 rfl (lv_at hl 0 rfl) ?_
  refine g_478 (i := 26) C hH (jC_1 hW) rfl dX11_keptByPlan_17 ?_
  refine lv_aload_n hx hb dX11_keptByPlan_20 rfl (lv_at hl 0 rfl) ?_
  refine g_479 (i := 28) C hH (jC_1 hW) rfl dX11_keptByPlan_21 ?_
  obtain ⟨μ4, e3, h⟩ := b1_e h
  refine cVv (as := [.ref (wB ω + 17), .ref (wB ω + 26), .ref (wB ω + 28)]) (rest := []) (c_X6_burnGiven (hC_139 hW) (qC_17 hW) (sC_26 hW) (sC_28 hW) e3) C hl.1 hH hS rfl (jC_139 hW) rfl wd_962 wd_961 mw_X6_burnGiven wd_960 rfl (rm_ok (by decide) (by decide)) (Nat.le_of_ble_eq_true rfl) ⟨Nat.zero_le _, Nat.zero_le _⟩ (by decide) dX11_keptByPlan_24 (fun H locs hH hS => ?_)
  refine lv_aload_n hx hb dX11_keptByPlan_27 rfl (lv_at hl 0 rfl) ?_
  refine g_483 (i := 158) C hH (jC_1 hW) rfl dX11_keptByPlan_28 ?_
  refine lv_aload_n hx hb dX11_keptByPlan_31 rfl (lv_at hl 0 rfl) ?_
  refine g_476 (i := 17) C hH (jC_1 hW) rfl dX11_keptByPlan_32 ?_
  refine lv_aload_n hx hb dX11_keptByPlan_35 rfl (lv_at hl 0 rfl) ?_
  refine g_479 (i := 28) C hH (jC_1 hW) rfl dX11_keptByPlan_36 ?_
  refine lv_iload_n hx hb dX11_keptByPlan_39 rfl (lv_at hl 2 rfl) ?_
  obtain ⟨μ6, e5, h⟩ := b1_e h
  refine cVv (as := [.ref (wB ω + 17), .ref (wB ω + 28), .int x2]) (rest := []) (c_X6_weigh (hC_158 hW) (qC_17 hW) (sC_28 hW) e5) C hl.1 hH hS rfl (jC_158 hW) rfl wd_926 wd_925 mw_X6_weigh wd_924 rfl (rm_ok (by decide) (by decide)) (Nat.le_of_ble_eq_true rfl) ⟨Nat.zero_le _, Nat.zero_le _⟩ (by decide) dX11_keptByPlan_40 (fun H locs hH hS => ?_)
  refine lv_aload_n hx hb dX11_keptByPlan_43 rfl (lv_at hl 0 rfl) ?_
  refine g_479 (i := 28) C hH (jC_1 hW) rfl dX11_keptByPlan_44 ?_
  refine lv_iconst (v := 3) hx hb dX11_keptByPlan_47 (by decide) ?_
  obtain ⟨r8, e7, h⟩ := b1_e h
  refine cVi (as := [.int 3]) (rest := []) (c_X7_sumOf (sC_28 hW) e7) C hl.1 hH hS rfl (jC_28 hW) rfl wd_789 wd_788 mw_X7_sumOf wd_787 rfl (rm_ok (by decide) (by decide)) (Nat.le_of_ble_eq_true rfl) ⟨Nat.zero_le _, Nat.zero_le _⟩ (by decide) dX11_keptByPlan_48 (fun H locs hH hS => ?_)
  refine lv_aload_n hx hb dX11_keptByPlan_51 rfl (lv_at hl 0 rfl) ?_
  refine g_483 (i := 158) C hH (jC_1 hW) rfl dX11_keptByPlan_52 ?_
  refine lv_iload_n hx hb dX11_keptByPlan_55 rfl (lv_at hl 2 rfl) ?_
  obtain ⟨r10, e9, h⟩ := b1_e h
  refine cVi (as := [.int x2]) (rest := [.int r8]) (c_X6_leastLoss (hC_158 hW) e9) C hl.1 hH hS rfl (jC_158 hW) rfl wd_938 wd_937 mw_X6_leastLoss wd_936 rfl (rm_ok (by decide) (by decide)) (Nat.le_of_ble_eq_true rfl) ⟨Nat.zero_le _, Nat.zero_le _⟩ (by decide) dX11_keptByPlan_56 (fun H locs hH hS => ?_)
  refine lv_isub hx hb dX11_keptByPlan_59 ?_
  exact h_iret C hr hk hH hS rfl (by cases h; rfl) dX11_keptByPlan_60
theorem c_X11_keptByPlan {l : Launch} {ω : WW} {x1 : Int32} {x2 : Int32} (hW : FWC ω) {μ : Mem} {rr : Int32} {μo : Mem} (h : fX11_keptByPlan x1 x2 μ = some (rr, μo)) : Con l yX11_keptByPlan cX11_keptByPlan 3 (some .int) 7 ω [.ref (wB ω + 1), .int x1, .int x2] μ (some (.int rr)) μo :=
  con_of (by decide) (Nat.le_of_ble_eq_true rfl) (fun p e s m args below meth c ls C hr hk hl hH hS => wX11_keptByPlan_e hW C hr hk hH hS (lv_sub hl [0, 1, 2] rfl) h)
end WK2
