theorem gdX8_otherEnd_24 : (decode cX8_otherEnd 24 = .ok (.if_icmp .ne 12, 3)) ∧ (decode cX8_otherEnd 27 = .ok (.aload_n 0, 1)) ∧ (decode cX8_otherEnd 28 = .ok (.getfield 15, 3)) ∧ (decode cX8_otherEnd 31 = .ok (.iload_n 1, 1)) ∧ (decode cX8_otherEnd 32 = .ok (.iaload, 1)) ∧ (decode cX8_otherEnd 33 = .ok (.goto 4, 3)) ∧ (decode cX8_otherEnd 36 = .ok (.iconst (-1), 1)) ∧ (decode cX8_otherEnd 37 = .ok (.ireturn, 1)) := by decide +kernel
theorem dX8_otherEnd_24 : decode cX8_otherEnd 24 = .ok (.if_icmp .ne 12, 3) := gdX8_otherEnd_24.1
theorem dX8_otherEnd_27 : decode cX8_otherEnd 27 = .ok (.aload_n 0, 1) := gdX8_otherEnd_24.2.1
theorem dX8_otherEnd_28 : decode cX8_otherEnd 28 = .ok (.getfield 15, 3) := gdX8_otherEnd_24.2.2.1
theorem dX8_otherEnd_31 : decode cX8_otherEnd 31 = .ok (.iload_n 1, 1) := gdX8_otherEnd_24.2.2.2.1
theorem dX8_otherEnd_32 : decode cX8_otherEnd 32 = .ok (.iaload, 1) := gdX8_otherEnd_24.2.2.2.2.1
theorem dX8_otherEnd_33 : decode cX8_otherEnd 33 = .ok (.goto 4, 3) := gdX8_otherEnd_24.2.2.2.2.2.1
theorem dX8_otherEnd_36 : decode cX8_otherEnd 36 = .ok (.iconst (-1), 1) := gdX8_otherEnd_24.2.2.2.2.2.2.1
theorem dX8_otherEnd_37 : decode cX8_otherEnd 37 = .ok (.ireturn, 1) := gdX8_otherEnd_24.2.2.2.2.2.2.2
theorem gdX8_firstStair_0 : (decode cX8_firstStair 0 = .ok (.aload_n 0, 1)) ∧ (decode cX8_firstStair 1 = .ok (.iload_n 1, 1)) ∧ (decode cX8_firstStair 2 = .ok (.iload_n 2, 1)) ∧ (decode cX8_firstStair 3 = .ok (.invokevirtual 48, 3)) ∧ (decode cX8_firstStair 6 = .ok (.istore_n 3, 1)) ∧ (decode cX8_firstStair 7 = .ok (.iconst 0, 1)) ∧ (decode cX8_firstStair 8 = .ok (.istore 4, 2)) ∧ (decode cX8_firstStair 10 = .ok (.iload 4, 2)) ∧ (decode cX8_firstStair 12 = .ok (.aload_n 0, 1)) ∧ (decode cX8_firstStair 13 = .ok (.getfield 35, 3)) ∧ (decode cX8_firstStair 16 = .ok (.if_icmp .ge 62, 3)) ∧ (decode cX8_firstStair 19 = .ok (.iload_n 3, 1)) ∧ (decode cX8_firstStair 20 = .ok (.ifCond .le 58, 3)) ∧ (decode cX8_firstStair 23 = .ok (.aload_n 0, 1)) ∧ (decode cX8_firstStair 24 = .ok (.iload 4, 2)) ∧ (decode cX8_firstStair 26 = .ok (.iload_n 1, 1)) := by decide +kernel
theorem dX8_firstStair_0 : decode cX8_firstStair 0 = .ok (.aload_n 0, 1) := gdX8_firstStair_0.1
theorem dX8_firstStair_1 : decode cX8_firstStair 1 = .ok (.iload_n 1, 1) := gdX8_firstStair_0.2.1
theorem dX8_firstStair_2 : decode cX8_firstStair 2 = .ok (.iload_n 2, 1) := gdX8_firstStair_0.2.2.1
theorem dX8_firstStair_3 : decode cX8_firstStair 3 = .ok (.invokevirtual 48, 3) := gdX8_firstStair_0.2.2.2.1
theorem dX8_firstStair_6 : decode cX8_firstStair 6 = .ok (.istore_n 3, 1) := gdX8_firstStair_0.2.2.2.2.1
theorem dX8_firstStair_7 : decode cX8_firstStair 7 = .ok (.iconst 0, 1) := gdX8_firstStair_0.2.2.2.2.2.1
theorem dX8_firstStair_8 : decode cX8_firstStair 8 = .ok (.istore 4, 2) := gdX8_firstStair_0.2.2.2.2.2.2.1
theorem dX8_firstStair_10 : decode cX8_firstStair 10 = .ok (.iload 4, 2) := gdX8_firstStair_0.2.2.2.2.2.2.2.1
theorem dX8_firstStair_12 : decode cX8_firstStair 12 = .ok (.aload_n 0, 1) := gdX8_firstStair_0.2.2.2.2.2.2.2.2.1
theorem dX8_firstStair_13 : decode cX8_firstStair 13 = .ok (.getfield 35, 3) := gdX8_firstStair_0.2.2.2.2.2.2.2.2.2.1
theorem dX8_firstStair_16 : decode cX8_firstStair 16 = .ok (.if_icmp .ge 62, 3) := gdX8_firstStair_0.2.2.2.2.2.2.2.2.2.2.1
theorem dX8_firstStair_19 : decode cX8_firstStair 19 = .ok (.iload_n 3, 1) := gdX8_firstStair_0.2.2.2.2.2.2.2.2.2.2.2.1
theorem dX8_firstStair_20 : decode cX8_firstStair 20 = .ok (.ifCond .le 58, 3) := gdX8_firstStair_0.2.2.2.2.2.2.2.2.2.2.2.2.1
theorem dX8_firstStair_23 : decode cX8_firstStair 23 = .ok (.aload_n 0, 1) := gdX8_firstStair_0.2.2.2.2.2.2.2.2.2.2.2.2.2.1
theorem dX8_firstStair_24 : decode cX8_firstStair 24 = .ok (.iload 4, 2) := gdX8_firstStair_0.2.2.2.2.2.2.2.2.2.2.2.2.2.2.1
theorem dX8_firstStair_26 : decode cX8_firstStair 26 = .ok (.iload_n 1, 1) := gdX8_firstStair_0.2.2.2.2.2.2.2.2.2.2.2.2.2.2.2
theorem gdX8_firstStair_27 : (decode cX8_firstStair 27 = .ok (.invokevirtual 52, 3)) ∧ (decode cX8_firstStair 30 = .ok (.istore 5, 2)) ∧ (decode cX8_firstStair 32 = .ok (.iload 5, 2)) ∧ (decode cX8_firstStair 34 = .ok (.ifCond .ge 7, 3)) ∧ (decode cX8_firstStair 37 = .ok (.iconst (-1), 1)) ∧ (decode cX8_firstStair 38 = .ok (.goto 10, 3)) ∧ (decode cX8_firstStair 41 = .ok (.aload_n 0, 1)) ∧ (decode cX8_firstStair 42 = .ok (.iload 5, 2)) ∧ (decode cX8_firstStair 44 = .ok (.iload_n 2, 1)) ∧ (decode cX8_firstStair 45 = .ok (.invokevirtual 48, 3)) ∧ (decode cX8_firstStair 48 = .ok (.istore 6, 2)) ∧ (decode cX8_firstStair 50 = .ok (.iload 6, 2)) ∧ (decode cX8_firstStair 52 = .ok (.ifCond .lt 20, 3)) ∧ (decode cX8_firstStair 55 = .ok (.aload_n 0, 1)) ∧ (decode cX8_firstStair 56 = .ok (.getfield 22, 3)) ∧ (decode cX8_firstStair 59 = .ok (.iload 4, 2)) := by decide +kernel
theorem dX8_firstStair_27 : decode cX8_firstStair 27 = .ok (.invokevirtual 52, 3) := gdX8_firstStair_27.1
theorem dX8_firstStair_30 : decode cX8_firstStair 30 = .ok (.istore 5, 2) := gdX8_firstStair_27.2.1
theorem dX8_firstStair_32 : decode cX8_firstStair 32 = .ok (.iload 5, 2) := gdX8_firstStair_27.2.2.1
theorem dX8_firstStair_34 : decode cX8_firstStair 34 = .ok (.ifCond .ge 7, 3) := gdX8_firstStair_27.2.2.2.1
theorem dX8_firstStair_37 : decode cX8_firstStair 37 = .ok (.iconst (-1), 1) := gdX8_firstStair_27.2.2.2.2.1
theorem dX8_firstStair_38 : decode cX8_firstStair 38 = .ok (.goto 10, 3) := gdX8_firstStair_27.2.2.2.2.2.1
theorem dX8_firstStair_41 : decode cX8_firstStair 41 = .ok (.aload_n 0, 1) := gdX8_firstStair_27.2.2.2.2.2.2.1
theorem dX8_firstStair_42 : decode cX8_firstStair 42 = .ok (.iload 5, 2) := gdX8_firstStair_27.2.2.2.2.2.2.2.1
theorem dX8_firstStair_44 : decode cX8_firstStair 44 = .ok (.iload_n 2, 1) := gdX8_firstStair_27.2.2.2.2.2.2.2.2.1
theorem dX8_firstStair_45 : decode cX8_firstStair 45 = .ok (.invokevirtual 48, 3) := gdX8_firstStair_27.2.2.2.2.2.2.2.2.2.1
theorem dX8_firstStair_48 : decode cX8_firstStair 48 = .ok (.istore 6, 2) := gdX8_firstStair_27.2.2.2.2.2.2.2.2.2.2.1
theorem dX8_firstStair_50 : decode cX8_firstStair 50 = .ok (.iload 6, 2) := gdX8_firstStair_27.2.2.2.2.2.2.2.2.2.2.2.1
theorem dX8_firstStair_52 : decode cX8_firstStair 52 = .ok (.ifCond .lt 20, 3) := gdX8_firstStair_27.2.2.2.2.2.2.2.2.2.2.2.2.1
theorem dX8_firstStair_55 : decode cX8_firstStair 55 = .ok (.aload_n 0, 1) := gdX8_firstStair_27.2.2.2.2.2.2.2.2.2.2.2.2.2.1
theorem dX8_firstStair_56 : decode cX8_firstStair 56 = .ok (.getfield 22, 3) := gdX8_firstStair_27.2.2.2.2.2.2.2.2.2.2.2.2.2.2.1
theorem dX8_firstStair_59 : decode cX8_firstStair 59 = .ok (.iload 4, 2) := gdX8_firstStair_27.2.2.2.2.2.2.2.2.2.2.2.2.2.2.2
theorem gdX8_firstStair_61 : (decode cX8_firstStair 61 = .ok (.iaload, 1)) ∧ (decode cX8_firstStair 62 = .ok (.iload 6, 2)) ∧ (decode cX8_firstStair 64 = .ok (.iadd, 1)) ∧ (decode cX8_firstStair 65 = .ok (.iload_n 3, 1)) ∧ (decode cX8_firstStair 66 = .ok (.if_icmp .ne 6, 3)) ∧ (decode cX8_firstStair 69 = .ok (.iload 4, 2)) ∧ (decode cX8_firstStair 71 = .ok (.ireturn, 1)) ∧ (decode cX8_firstStair 72 = .ok (.iinc 4 1, 3)) ∧ (decode cX8_firstStair 75 = .ok (.goto (-65), 3)) ∧ (decode cX8_firstStair 78 = .ok (.iconst (-1), 1)) ∧ (decode cX8_firstStair 79 = .ok (.ireturn, 1)) := by decide +kernel
theorem dX8_firstStair_61 : decode cX8_firstStair 61 = .ok (.iaload, 1) := gdX8_firstStair_61.1
theorem dX8_firstStair_62 : decode cX8_firstStair 62 = .ok (.iload 6, 2) := gdX8_firstStair_61.2.1
theorem dX8_firstStair_64 : decode cX8_firstStair 64 = .ok (.iadd, 1) := gdX8_firstStair_61.2.2.1
theorem dX8_firstStair_65 : decode cX8_firstStair 65 = .ok (.iload_n 3, 1) := gdX8_firstStair_61.2.2.2.1
theorem dX8_firstStair_66 : decode cX8_firstStair 66 = .ok (.if_icmp .ne 6, 3) := gdX8_firstStair_61.2.2.2.2.1
theorem dX8_firstStair_69 : decode cX8_firstStair 69 = .ok (.iload 4, 2) := gdX8_firstStair_61.2.2.2.2.2.1
theorem dX8_firstStair_71 : decode cX8_firstStair 71 = .ok (.ireturn, 1) := gdX8_firstStair_61.2.2.2.2.2.2.1
theorem dX8_firstStair_72 : decode cX8_firstStair 72 = .ok (.iinc 4 1, 3) := gdX8_firstStair_61.2.2.2.2.2.2.2.1
theorem dX8_firstStair_75 : decode cX8_firstStair 75 = .ok (.goto (-65), 3) := gdX8_firstStair_61.2.2.2.2.2.2.2.2.1
theorem dX8_firstStair_78 : decode cX8_firstStair 78 = .ok (.iconst (-1), 1) := gdX8_firstStair_61.2.2.2.2.2.2.2.2.2.1
theorem dX8_firstStair_79 : decode cX8_firstStair 79 = .ok (.ireturn, 1) := gdX8_firstStair_61.2.2.2.2.2.2.2.2.2.2
theorem gdX8_stairsAt_0 : (decode cX8_stairsAt 0 = .ok (.iconst 0, 1)) ∧ (decode cX8_stairsAt 1 = .ok (.istore_n 2, 1)) ∧ (decode cX8_stairsAt 2 = .ok (.iconst 0, 1)) ∧ (decode cX8_stairsAt 3 = .ok (.istore_n 3, 1)) ∧ (decode cX8_stairsAt 4 = .ok (.iload_n 3, 1)) ∧ (decode cX8_stairsAt 5 = .ok (.aload_n 0, 1)) ∧ (decode cX8_stairsAt 6 = .ok (.getfield 35, 3)) ∧ (decode cX8_stairsAt 9 = .ok (.if_icmp .ge 26, 3)) ∧ (decode cX8_stairsAt 12 = .ok (.iload_n 2, 1)) ∧ (decode cX8_stairsAt 13 = .ok (.aload_n 0, 1)) ∧ (decode cX8_stairsAt 14 = .ok (.iload_n 3, 1)) ∧ (decode cX8_stairsAt 15 = .ok (.iload_n 1, 1)) ∧ (decode cX8_stairsAt 16 = .ok (.invokevirtual 52, 3)) ∧ (decode cX8_stairsAt 19 = .ok (.ifCond .ge 7, 3)) ∧ (decode cX8_stairsAt 22 = .ok (.iconst 0, 1)) ∧ (decode cX8_stairsAt 23 = .ok (.goto 4, 3)) := by decide +kernel
theorem dX8_stairsAt_0 : decode cX8_stairsAt 0 = .ok (.iconst 0, 1) := gdX8_stairsAt_0.1
theorem dX8_stairsAt_1 : decode cX8_stairsAt 1 = .ok (.istore_n 2, 1) := gdX8_stairsAt_0.2.1
theorem dX8_stairsAt_2 : decode cX8_stairsAt 2 = .ok (.iconst 0, 1) := gdX8_stairsAt_0.2.2.1
theorem dX8_stairsAt_3 : decode cX8_stairsAt 3 = .ok (.istore_n 3, 1) := gdX8_stairsAt_0.2.2.2.1
theorem dX8_stairsAt_4 : decode cX8_stairsAt 4 = .ok (.iload_n 3, 1) := gdX8_stairsAt_0.2.2.2.2.1
theorem dX8_stairsAt_5 : decode cX8_stairsAt 5 = .ok (.aload_n 0, 1) := gdX8_stairsAt_0.2.2.2.2.2.1
theorem dX8_stairsAt_6 : decode cX8_stairsAt 6 = .ok (.getfield 35, 3) := gdX8_stairsAt_0.2.2.2.2.2.2.1
theorem dX8_stairsAt_9 : decode cX8_stairsAt 9 = .ok (.if_icmp .ge 26, 3) := gdX8_stairsAt_0.2.2.2.2.2.2.2.1
theorem dX8_stairsAt_12 : decode cX8_stairsAt 12 = .ok (.iload_n 2, 1) := gdX8_stairsAt_0.2.2.2.2.2.2.2.2.1
theorem dX8_stairsAt_13 : decode cX8_stairsAt 13 = .ok (.aload_n 0, 1) := gdX8_stairsAt_0.2.2.2.2.2.2.2.2.2.1
theorem dX8_stairsAt_14 : decode cX8_stairsAt 14 = .ok (.iload_n 3, 1) := gdX8_stairsAt_0.2.2.2.2.2.2.2.2.2.2.1
theorem dX8_stairsAt_15 : decode cX8_stairsAt 15 = .ok (.iload_n 1, 1) := gdX8_stairsAt_0.2.2.2.2.2.2.2.2.2.2.2.1
theorem dX8_stairsAt_16 : decode cX8_stairsAt 16 = .ok (.invokevirtual 52, 3) := gdX8_stairsAt_0.2.2.2.2.2.2.2.2.2.2.2.2.1
theorem dX8_stairsAt_19 : decode cX8_stairsAt 19 = .ok (.ifCond .ge 7, 3) := gdX8_stairsAt_0.2.2.2.2.2.2.2.2.2.2.2.2.2.1
theorem dX8_stairsAt_22 : decode cX8_stairsAt 22 = .ok (.iconst 0, 1) := gdX8_stairsAt_0.2.2.2.2.2.2.2.2.2.2.2.2.2.2.1
theorem dX8_stairsAt_23 : decode cX8_stairsAt 23 = .ok (.goto 4, 3) := gdX8_stairsAt_0.2.2.2.2.2.2.2.2.2.2.2.2.2.2.2
theorem gdX8_stairsAt_26 : (decode cX8_stairsAt 26 = .ok (.iconst 1, 1)) ∧ (decode cX8_stairsAt 27 = .ok (.iadd, 1)) ∧ (decode cX8_stairsAt 28 = .ok (.istore_n 2, 1)) ∧ (decode cX8_stairsAt 29 = .ok (.iinc 3 1, 3)) ∧ (decode cX8_stairsAt 32 = .ok (.goto (-28), 3)) ∧ (decode cX8_stairsAt 35 = .ok (.iload_n 2, 1)) ∧ (decode cX8_stairsAt 36 = .ok (.ireturn, 1)) := by decide +kernel
theorem dX8_stairsAt_26 : decode cX8_stairsAt 26 = .ok (.iconst 1, 1) := gdX8_stairsAt_26.1
theorem dX8_stairsAt_27 : decode cX8_stairsAt 27 = .ok (.iadd, 1) := gdX8_stairsAt_26.2.1
theorem dX8_stairsAt_28 : decode cX8_stairsAt 28 = .ok (.istore_n 2, 1) := gdX8_stairsAt_26.2.2.1
theorem dX8_stairsAt_29 : decode cX8_stairsAt 29 = .ok (.iinc 3 1, 3) := gdX8_stairsAt_26.2.2.2.1
theorem dX8_stairsAt_32 : decode cX8_stairsAt 32 = .ok (.goto (-28), 3) := gdX8_stairsAt_26.2.2.2.2.1
theorem dX8_stairsAt_35 : decode cX8_stairsAt 35 = .ok (.iload_n 2, 1) := gdX8_stairsAt_26.2.2.2.2.2.1
theorem dX8_stairsAt_36 : decode cX8_stairsAt 36 = .ok (.ireturn, 1) := gdX8_stairsAt_26.2.2.2.2.2.2
theorem gdX8_stairInPlace_0 : (decode cX8_stairInPlace 0 = .ok (.iconst 0, 1)) ∧ (decode cX8_stairInPlace 1 = .ok (.istore_n 3, 1)) ∧ (decode cX8_stairInPlace 2 = .ok (.iconst 0, 1)) ∧ (decode cX8_stairInPlace 3 = .ok (.istore 4, 2)) ∧ (decode cX8_stairInPlace 5 = .ok (.iload 4, 2)) ∧ (decode cX8_stairInPlace 7 = .ok (.aload_n 0, 1)) ∧ (decode cX8_stairInPlace 8 = .ok (.getfield 35, 3)) ∧ (decode cX8_stairInPlace 11 = .ok (.if_icmp .ge 33, 3)) ∧ (decode cX8_stairInPlace 14 = .ok (.aload_n 0, 1)) ∧ (decode cX8_stairInPlace 15 = .ok (.iload 4, 2)) ∧ (decode cX8_stairInPlace 17 = .ok (.iload_n 1, 1)) ∧ (decode cX8_stairInPlace 18 = .ok (.invokevirtual 52, 3)) ∧ (decode cX8_stairInPlace 21 = .ok (.ifCond .ge 6, 3)) ∧ (decode cX8_stairInPlace 24 = .ok (.goto 14, 3)) ∧ (decode cX8_stairInPlace 27 = .ok (.iload_n 3, 1)) ∧ (decode cX8_stairInPlace 28 = .ok (.iload_n 2, 1)) := by decide +kernel
theorem dX8_stairInPlace_0 : decode cX8_stairInPlace 0 = .ok (.iconst 0, 1) := gdX8_stairInPlace_0.1
theorem dX8_stairInPlace_1 : decode cX8_stairInPlace 1 = .ok (.istore_n 3, 1) := gdX8_stairInPlace_0.2.1
theorem dX8_stairInPlace_2 : decode cX8_stairInPlace 2 = .ok (.iconst 0, 1) := gdX8_stairInPlace_0.2.2.1
theorem dX8_stairInPlace_3 : decode cX8_stairInPlace 3 = .ok (.istore 4, 2) := gdX8_stairInPlace_0.2.2.2.1
theorem dX8_stairInPlace_5 : decode cX8_stairInPlace 5 = .ok (.iload 4, 2) := gdX8_stairInPlace_0.2.2.2.2.1
theorem dX8_stairInPlace_7 : decode cX8_stairInPlace 7 = .ok (.aload_n 0, 1) := gdX8_stairInPlace_0.2.2.2.2.2.1
theorem dX8_stairInPlace_8 : decode cX8_stairInPlace 8 = .ok (.getfield 35, 3) := gdX8_stairInPlace_0.2.2.2.2.2.2.1
theorem dX8_stairInPlace_11 : decode cX8_stairInPlace 11 = .ok (.if_icmp .ge 33, 3) := gdX8_stairInPlace_0.2.2.2.2.2.2.2.1
theorem dX8_stairInPlace_14 : decode cX8_stairInPlace 14 = .ok (.aload_n 0, 1) := gdX8_stairInPlace_0.2.2.2.2.2.2.2.2.1
theorem dX8_stairInPlace_15 : decode cX8_stairInPlace 15 = .ok (.iload 4, 2) := gdX8_stairInPlace_0.2.2.2.2.2.2.2.2.2.1
theorem dX8_stairInPlace_17 : decode cX8_stairInPlace 17 = .ok (.iload_n 1, 1) := gdX8_stairInPlace_0.2.2.2.2.2.2.2.2.2.2.1
theorem dX8_stairInPlace_18 : decode cX8_stairInPlace 18 = .ok (.invokevirtual 52, 3) := gdX8_stairInPlace_0.2.2.2.2.2.2.2.2.2.2.2.1
theorem dX8_stairInPlace_21 : decode cX8_stairInPlace 21 = .ok (.ifCond .ge 6, 3) := gdX8_stairInPlace_0.2.2.2.2.2.2.2.2.2.2.2.2.1
theorem dX8_stairInPlace_24 : decode cX8_stairInPlace 24 = .ok (.goto 14, 3) := gdX8_stairInPlace_0.2.2.2.2.2.2.2.2.2.2.2.2.2.1
theorem dX8_stairInPlace_27 : decode cX8_stairInPlace 27 = .ok (.iload_n 3, 1) := gdX8_stairInPlace_0.2.2.2.2.2.2.2.2.2.2.2.2.2.2.1
theorem dX8_stairInPlace_28 : decode cX8_stairInPlace 28 = .ok (.iload_n 2, 1) := gdX8_stairInPlace_0.2.2.2.2.2.2.2.2.2.2.2.2.2.2.2
theorem gdX8_stairInPlace_29 : (decode cX8_stairInPlace 29 = .ok (.if_icmp .ne 6, 3)) ∧ (decode cX8_stairInPlace 32 = .ok (.iload 4, 2)) ∧ (decode cX8_stairInPlace 34 = .ok (.ireturn, 1)) ∧ (decode cX8_stairInPlace 35 = .ok (.iinc 3 1, 3)) ∧ (decode cX8_stairInPlace 38 = .ok (.iinc 4 1, 3)) ∧ (decode cX8_stairInPlace 41 = .ok (.goto (-36), 3)) ∧ (decode cX8_stairInPlace 44 = .ok (.iconst (-1), 1)) ∧ (decode cX8_stairInPlace 45 = .ok (.ireturn, 1)) := by decide +kernel
theorem dX8_stairInPlace_29 : decode cX8_stairInPlace 29 = .ok (.if_icmp .ne 6, 3) := gdX8_stairInPlace_29.1
theorem dX8_stairInPlace_32 : decode cX8_stairInPlace 32 = .ok (.iload 4, 2) := gdX8_stairInPlace_29.2.1
theorem dX8_stairInPlace_34 : decode cX8_stairInPlace 34 = .ok (.ireturn, 1) := gdX8_stairInPlace_29.2.2.1
theorem dX8_stairInPlace_35 : decode cX8_stairInPlace 35 = .ok (.iinc 3 1, 3) := gdX8_stairInPlace_29.2.2.2.1
theorem dX8_stairInPlace_38 : decode cX8_stairInPlace 38 = .ok (.iinc 4 1, 3) := gdX8_stairInPlace_29.2.2.2.2.1
theorem dX8_stairInPlace_41 : decode cX8_stairInPlace 41 = .ok (.goto (-36), 3) := gdX8_stairInPlace_29.2.2.2.2.2.1
theorem dX8_stairInPlace_44 : decode cX8_stairInPlace 44 = .ok (.iconst (-1), 1) := gdX8_stairInPlace_29.2.2.2.2.2.2.1
theorem dX8_stairInPlace_45 : decode cX8_stairInPlace 45 = .ok (.ireturn, 1) := gdX8_stairInPlace_29.2.2.2.2.2.2.2
theorem gdX8_isWayAround_0 : (decode cX8_isWayAround 0 = .ok (.iconst 1, 1)) ∧ (decode cX8_isWayAround 1 = .ok (.aload_n 0, 1)) ∧ (decode cX8_isWayAround 2 = .ok (.getfield 15, 3)) ∧ (decode cX8_isWayAround 5 = .ok (.iload_n 1, 1)) ∧ (decode cX8_isWayAround 6 = .ok (.iaload, 1)) ∧ (decode cX8_isWayAround 7 = .ok (.ishl, 1)) ∧ (decode cX8_isWayAround 8 = .ok (.istore_n 2, 1)) ∧ (decode cX8_isWayAround 9 = .ok (.iconst 0, 1)) ∧ (decode cX8_isWayAround 10 = .ok (.istore_n 3, 1)) ∧ (decode cX8_isWayAround 11 = .ok (.iload_n 3, 1)) ∧ (decode cX8_isWayAround 12 = .ok (.aload_n 0, 1)) ∧ (decode cX8_isWayAround 13 = .ok (.getfield 31, 3)) ∧ (decode cX8_isWayAround 16 = .ok (.if_icmp .ge 66, 3)) ∧ (decode cX8_isWayAround 19 = .ok (.iconst 0, 1)) ∧ (decode cX8_isWayAround 20 = .ok (.istore 4, 2)) ∧ (decode cX8_isWayAround 22 = .ok (.iload 4, 2)) := by decide +kernel
theorem dX8_isWayAround_0 : decode cX8_isWayAround 0 = .ok (.iconst 1, 1) := gdX8_isWayAround_0.1
theorem dX8_isWayAround_1 : decode cX8_isWayAround 1 = .ok (.aload_n 0, 1) := gdX8_isWayAround_0.2.1
theorem dX8_isWayAround_2 : decode cX8_isWayAround 2 = .ok (.getfield 15, 3) := gdX8_isWayAround_0.2.2.1
theorem dX8_isWayAround_5 : decode cX8_isWayAround 5 = .ok (.iload_n 1, 1) := gdX8_isWayAround_0.2.2.2.1
theorem dX8_isWayAround_6 : decode cX8_isWayAround 6 = .ok (.iaload, 1) := gdX8_isWayAround_0.2.2.2.2.1
theorem dX8_isWayAround_7 : decode cX8_isWayAround 7 = .ok (.ishl, 1) := gdX8_isWayAround_0.2.2.2.2.2.1
theorem dX8_isWayAround_8 : decode cX8_isWayAround 8 = .ok (.istore_n 2, 1) := gdX8_isWayAround_0.2.2.2.2.2.2.1
theorem dX8_isWayAround_9 : decode cX8_isWayAround 9 = .ok (.iconst 0, 1) := gdX8_isWayAround_0.2.2.2.2.2.2.2.1
theorem dX8_isWayAround_10 : decode cX8_isWayAround 10 = .ok (.istore_n 3, 1) := gdX8_isWayAround_0.2.2.2.2.2.2.2.2.1
theorem dX8_isWayAround_11 : decode cX8_isWayAround 11 = .ok (.iload_n 3, 1) := gdX8_isWayAround_0.2.2.2.2.2.2.2.2.2.1
theorem dX8_isWayAround_12 : decode cX8_isWayAround 12 = .ok (.aload_n 0, 1) := gdX8_isWayAround_0.2.2.2.2.2.2.2.2.2.2.1
theorem dX8_isWayAround_13 : decode cX8_isWayAround 13 = .ok (.getfield 31, 3) := gdX8_isWayAround_0.2.2.2.2.2.2.2.2.2.2.2.1
theorem dX8_isWayAround_16 : decode cX8_isWayAround 16 = .ok (.if_icmp .ge 66, 3) := gdX8_isWayAround_0.2.2.2.2.2.2.2.2.2.2.2.2.1
theorem dX8_isWayAround_19 : decode cX8_isWayAround 19 = .ok (.iconst 0, 1) := gdX8_isWayAround_0.2.2.2.2.2.2.2.2.2.2.2.2.2.1
theorem dX8_isWayAround_20 : decode cX8_isWayAround 20 = .ok (.istore 4, 2) := gdX8_isWayAround_0.2.2.2.2.2.2.2.2.2.2.2.2.2.2.1
theorem dX8_isWayAround_22 : decode cX8_isWayAround 22 = .ok (.iload 4, 2) := gdX8_isWayAround_0.2.2.2.2.2.2.2.2.2.2.2.2.2.2.2
theorem gdX8_isWayAround_24 : (decode cX8_isWayAround 24 = .ok (.aload_n 0, 1)) ∧ (decode cX8_isWayAround 25 = .ok (.getfield 35, 3)) ∧ (decode cX8_isWayAround 28 = .ok (.if_icmp .ge 48, 3)) ∧ (decode cX8_isWayAround 31 = .ok (.iconst 1, 1)) ∧ (decode cX8_isWayAround 32 = .ok (.aload_n 0, 1)) ∧ (decode cX8_isWayAround 33 = .ok (.getfield 15, 3)) ∧ (decode cX8_isWayAround 36 = .ok (.iload 4, 2)) ∧ (decode cX8_isWayAround 38 = .ok (.iaload, 1)) ∧ (decode cX8_isWayAround 39 = .ok (.ishl, 1)) ∧ (decode cX8_isWayAround 40 = .ok (.iconst 1, 1)) ∧ (decode cX8_isWayAround 41 = .ok (.aload_n 0, 1)) ∧ (decode cX8_isWayAround 42 = .ok (.getfield 19, 3)) ∧ (decode cX8_isWayAround 45 = .ok (.iload 4, 2)) ∧ (decode cX8_isWayAround 47 = .ok (.iaload, 1)) ∧ (decode cX8_isWayAround 48 = .ok (.ishl, 1)) ∧ (decode cX8_isWayAround 49 = .ok (.ior, 1)) := by decide +kernel
theorem dX8_isWayAround_24 : decode cX8_isWayAround 24 = .ok (.aload_n 0, 1) := gdX8_isWayAround_24.1
theorem dX8_isWayAround_25 : decode cX8_isWayAround 25 = .ok (.getfield 35, 3) := gdX8_isWayAround_24.2.1
theorem dX8_isWayAround_28 : decode cX8_isWayAround 28 = .ok (.if_icmp .ge 48, 3) := gdX8_isWayAround_24.2.2.1
theorem dX8_isWayAround_31 : decode cX8_isWayAround 31 = .ok (.iconst 1, 1) := gdX8_isWayAround_24.2.2.2.1
theorem dX8_isWayAround_32 : decode cX8_isWayAround 32 = .ok (.aload_n 0, 1) := gdX8_isWayAround_24.2.2.2.2.1
theorem dX8_isWayAround_33 : decode cX8_isWayAround 33 = .ok (.getfield 15, 3) := gdX8_isWayAround_24.2.2.2.2.2.1
theorem dX8_isWayAround_36 : decode cX8_isWayAround 36 = .ok (.iload 4, 2) := gdX8_isWayAround_24.2.2.2.2.2.2.1
theorem dX8_isWayAround_38 : decode cX8_isWayAround 38 = .ok (.iaload, 1) := gdX8_isWayAround_24.2.2.2.2.2.2.2.1
theorem dX8_isWayAround_39 : decode cX8_isWayAround 39 = .ok (.ishl, 1) := gdX8_isWayAround_24.2.2.2.2.2.2.2.2.1
theorem dX8_isWayAround_40 : decode cX8_isWayAround 40 = .ok (.iconst 1, 1) := gdX8_isWayAround_24.2.2.2.2.2.2.2.2.2.1
theorem dX8_isWayAround_41 : decode cX8_isWayAround 41 = .ok (.aload_n 0, 1) := gdX8_isWayAround_24.2.2.2.2.2.2.2.2.2.2.1
theorem dX8_isWayAround_42 : decode cX8_isWayAround 42 = .ok (.getfield 19, 3) := gdX8_isWayAround_24.2.2.2.2.2.2.2.2.2.2.2.1
theorem dX8_isWayAround_45 : decode cX8_isWayAround 45 = .ok (.iload 4, 2) := gdX8_isWayAround_24.2.2.2.2.2.2.2.2.2.2.2.2.1
theorem dX8_isWayAround_47 : decode cX8_isWayAround 47 = .ok (.iaload, 1) := gdX8_isWayAround_24.2.2.2.2.2.2.2.2.2.2.2.2.2.1
theorem dX8_isWayAround_48 : decode cX8_isWayAround 48 = .ok (.ishl, 1) := gdX8_isWayAround_24.2.2.2.2.2.2.2.2.2.2.2.2.2.2.1
theorem dX8_isWayAround_49 : decode cX8_isWayAround 49 = .ok (.ior, 1) := gdX8_isWayAround_24.2.2.2.2.2.2.2.2.2.2.2.2.2.2.2
theorem gdX8_isWayAround_50 : (decode cX8_isWayAround 50 = .ok (.istore 5, 2)) ∧ (decode cX8_isWayAround 52 = .ok (.iload 4, 2)) ∧ (decode cX8_isWayAround 54 = .ok (.iload_n 1, 1)) ∧ (decode cX8_isWayAround 55 = .ok (.if_icmp .eq 15, 3)) ∧ (decode cX8_isWayAround 58 = .ok (.iload_n 2, 1)) ∧ (decode cX8_isWayAround 59 = .ok (.iload 5, 2)) ∧ (decode cX8_isWayAround 61 = .ok (.iand, 1)) ∧ (decode cX8_isWayAround 62 = .ok (.ifCond .eq 8, 3)) ∧ (decode cX8_isWayAround 65 = .ok (.iload_n 2, 1)) ∧ (decode cX8_isWayAround 66 = .ok (.iload 5, 2)) ∧ (decode cX8_isWayAround 68 = .ok (.ior, 1)) ∧ (decode cX8_isWayAround 69 = .ok (.istore_n 2, 1)) ∧ (decode cX8_isWayAround 70 = .ok (.iinc 4 1, 3)) ∧ (decode cX8_isWayAround 73 = .ok (.goto (-51), 3)) ∧ (decode cX8_isWayAround 76 = .ok (.iinc 3 1, 3)) ∧ (decode cX8_isWayAround 79 = .ok (.goto (-68), 3)) := by decide +kernel
theorem dX8_isWayAround_50 : decode cX8_isWayAround 50 = .ok (.istore 5, 2) := gdX8_isWayAround_50.1
theorem dX8_isWayAround_52 : decode cX8_isWayAround 52 = .ok (.iload 4, 2) := gdX8_isWayAround_50.2.1
theorem dX8_isWayAround_54 : decode cX8_isWayAround 54 = .ok (.iload_n 1, 1) := gdX8_isWayAround_50.2.2.1
theorem dX8_isWayAround_55 : decode cX8_isWayAround 55 = .ok (.if_icmp .eq 15, 3) := gdX8_isWayAround_50.2.2.2.1
theorem dX8_isWayAround_58 : decode cX8_isWayAround 58 = .ok (.iload_n 2, 1) := gdX8_isWayAround_50.2.2.2.2.1
theorem dX8_isWayAround_59 : decode cX8_isWayAround 59 = .ok (.iload 5, 2) := gdX8_isWayAround_50.2.2.2.2.2.1
theorem dX8_isWayAround_61 : decode cX8_isWayAround 61 = .ok (.iand, 1) := gdX8_isWayAround_50.2.2.2.2.2.2.1
theorem dX8_isWayAround_62 : decode cX8_isWayAround 62 = .ok (.ifCond .eq 8, 3) := gdX8_isWayAround_50.2.2.2.2.2.2.2.1
theorem dX8_isWayAround_65 : decode cX8_isWayAround 65 = .ok (.iload_n 2, 1) := gdX8_isWayAround_50.2.2.2.2.2.2.2.2.1
theorem dX8_isWayAround_66 : decode cX8_isWayAround 66 = .ok (.iload 5, 2) := gdX8_isWayAround_50.2.2.2.2.2.2.2.2.2.1
theorem dX8_isWayAround_68 : decode cX8_isWayAround 68 = .ok (.ior, 1) := gdX8_isWayAround_50.2.2.2.2.2.2.2.2.2.2.1
theorem dX8_isWayAround_69 : decode cX8_isWayAround 69 = .ok (.istore_n 2, 1) := gdX8_isWayAround_50.2.2.2.2.2.2.2.2.2.2.2.1
theorem dX8_isWayAround_70 : decode cX8_isWayAround 70 = .ok (.iinc 4 1, 3) := gdX8_isWayAround_50.2.2.2.2.2.2.2.2.2.2.2.2.1
theorem dX8_isWayAround_73 : decode cX8_isWayAround 73 = .ok (.goto (-51), 3) := gdX8_isWayAround_50.2.2.2.2.2.2.2.2.2.2.2.2.2.1
theorem dX8_isWayAround_76 : decode cX8_isWayAround 76 = .ok (.iinc 3 1, 3) := gdX8_isWayAround_50.2.2.2.2.2.2.2.2.2.2.2.2.2.2.1
theorem dX8_isWayAround_79 : decode cX8_isWayAround 79 = .ok (.goto (-68), 3) := gdX8_isWayAround_50.2.2.2.2.2.2.2.2.2.2.2.2.2.2.2
theorem gdX8_isWayAround_82 : (decode cX8_isWayAround 82 = .ok (.iload_n 2, 1)) ∧ (decode cX8_isWayAround 83 = .ok (.iconst 1, 1)) ∧ (decode cX8_isWayAround 84 = .ok (.aload_n 0, 1)) ∧ (decode cX8_isWayAround 85 = .ok (.getfield 19, 3)) ∧ (decode cX8_isWayAround 88 = .ok (.iload_n 1, 1)) ∧ (decode cX8_isWayAround 89 = .ok (.iaload, 1)) ∧ (decode cX8_isWayAround 90 = .ok (.ishl, 1)) ∧ (decode cX8_isWayAround 91 = .ok (.iand, 1)) ∧ (decode cX8_isWayAround 92 = .ok (.ifCond .eq 7, 3)) ∧ (decode cX8_isWayAround 95 = .ok (.iconst 1, 1)) ∧ (decode cX8_isWayAround 96 = .ok (.goto 4, 3)) ∧ (decode cX8_isWayAround 99 = .ok (.iconst 0, 1)) ∧ (decode cX8_isWayAround 100 = .ok (.ireturn, 1)) := by decide +kernel
theorem dX8_isWayAround_82 : decode cX8_isWayAround 82 = .ok (.iload_n 2, 1) := gdX8_isWayAround_82.1
theorem dX8_isWayAround_83 : decode cX8_isWayAround 83 = .ok (.iconst 1, 1) := gdX8_isWayAround_82.2.1
theorem dX8_isWayAround_84 : decode cX8_isWayAround 84 = .ok (.aload_n 0, 1) := gdX8_isWayAround_82.2.2.1
theorem dX8_isWayAround_85 : decode cX8_isWayAround 85 = .ok (.getfield 19, 3) := gdX8_isWayAround_82.2.2.2.1
theorem dX8_isWayAround_88 : decode cX8_isWayAround 88 = .ok (.iload_n 1, 1) := gdX8_isWayAround_82.2.2.2.2.1
theorem dX8_isWayAround_89 : decode cX8_isWayAround 89 = .ok (.iaload, 1) := gdX8_isWayAround_82.2.2.2.2.2.1
theorem dX8_isWayAround_90 : decode cX8_isWayAround 90 = .ok (.ishl, 1) := gdX8_isWayAround_82.2.2.2.2.2.2.1
theorem dX8_isWayAround_91 : decode cX8_isWayAround 91 = .ok (.iand, 1) := gdX8_isWayAround_82.2.2.2.2.2.2.2.1
theorem dX8_isWayAround_92 : decode cX8_isWayAround 92 = .ok (.ifCond .eq 7, 3) := gdX8_isWayAround_82.2.2.2.2.2.2.2.2.1
theorem dX8_isWayAround_95 : decode cX8_isWayAround 95 = .ok (.iconst 1, 1) := gdX8_isWayAround_82.2.2.2.2.2.2.2.2.2.1
theorem dX8_isWayAround_96 : decode cX8_isWayAround 96 = .ok (.goto 4, 3) := gdX8_isWayAround_82.2.2.2.2.2.2.2.2.2.2.1
theorem dX8_isWayAround_99 : decode cX8_isWayAround 99 = .ok (.iconst 0, 1) := gdX8_isWayAround_82.2.2.2.2.2.2.2.2.2.2.2.1
theorem dX8_isWayAround_100 : decode cX8_isWayAround 100 = .ok (.ireturn, 1) := gdX8_isWayAround_82.2.2.2.2.2.2.2.2.2.2.2.2
theorem gdX8_clockAt_0 : (decode cX8_clockAt 0 = .ok (.iload_n 2, 1)) ∧ (decode cX8_clockAt 1 = .ok (.i2l, 1)) ∧ (decode cX8_clockAt 2 = .ok (.aload_n 0, 1)) ∧ (decode cX8_clockAt 3 = .ok (.getfield 9, 3)) ∧ (decode cX8_clockAt 6 = .ok (.iload_n 1, 1)) ∧ (decode cX8_clockAt 7 = .ok (.laload, 1)) ∧ (decode cX8_clockAt 8 = .ok (.lmul, 1)) ∧ (decode cX8_clockAt 9 = .ok (.lreturn, 1)) := by decide +kernel
theorem dX8_clockAt_0 : decode cX8_clockAt 0 = .ok (.iload_n 2, 1) := gdX8_clockAt_0.1
theorem dX8_clockAt_1 : decode cX8_clockAt 1 = .ok (.i2l, 1) := gdX8_clockAt_0.2.1
theorem dX8_clockAt_2 : decode cX8_clockAt 2 = .ok (.aload_n 0, 1) := gdX8_clockAt_0.2.2.1
theorem dX8_clockAt_3 : decode cX8_clockAt 3 = .ok (.getfield 9, 3) := gdX8_clockAt_0.2.2.2.1
theorem dX8_clockAt_6 : decode cX8_clockAt 6 = .ok (.iload_n 1, 1) := gdX8_clockAt_0.2.2.2.2.1
theorem dX8_clockAt_7 : decode cX8_clockAt 7 = .ok (.laload, 1) := gdX8_clockAt_0.2.2.2.2.2.1
theorem dX8_clockAt_8 : decode cX8_clockAt 8 = .ok (.lmul, 1) := gdX8_clockAt_0.2.2.2.2.2.2.1
theorem dX8_clockAt_9 : decode cX8_clockAt 9 = .ok (.lreturn, 1) := gdX8_clockAt_0.2.2.2.2.2.2.2
theorem gdX9_init_0 : (decode cX9_init 0 = .ok (.aload_n 0, 1)) ∧ (decode cX9_init 1 = .ok (.invokespecial 3, 3)) ∧ (decode cX9_init 4 = .ok (.aload_n 0, 1)) ∧ (decode cX9_init 5 = .ok (.aload_n 1, 1)) ∧ (decode cX9_init 6 = .ok (.putfield 9, 3)) ∧ (decode cX9_init 9 = .ok (.aload_n 0, 1)) ∧ (decode cX9_init 10 = .ok (.aload_n 2, 1)) ∧ (decode cX9_init 11 = .ok (.putfield 15, 3)) ∧ (decode cX9_init 14 = .ok (.aload_n 0, 1)) ∧ (decode cX9_init 15 = .ok (.aload_n 3, 1)) ∧ (decode cX9_init 16 = .ok (.putfield 19, 3)) ∧ (decode cX9_init 19 = .ok (.return_, 1)) := by decide +kernel
theorem dX9_init_0 : decode cX9_init 0 = .ok (.aload_n 0, 1) := gdX9_init_0.1
theorem dX9_init_1 : decode cX9_init 1 = .ok (.invokespecial 3, 3) := gdX9_init_0.2.1
theorem dX9_init_4 : decode cX9_init 4 = .ok (.aload_n 0, 1) := gdX9_init_0.2.2.1
theorem dX9_init_5 : decode cX9_init 5 = .ok (.aload_n 1, 1) := gdX9_init_0.2.2.2.1
theorem dX9_init_6 : decode cX9_init 6 = .ok (.putfield 9, 3) := gdX9_init_0.2.2.2.2.1
theorem dX9_init_9 : decode cX9_init 9 = .ok (.aload_n 0, 1) := gdX9_init_0.2.2.2.2.2.1
theorem dX9_init_10 : decode cX9_init 10 = .ok (.aload_n 2, 1) := gdX9_init_0.2.2.2.2.2.2.1
theorem dX9_init_11 : decode cX9_init 11 = .ok (.putfield 15, 3) := gdX9_init_0.2.2.2.2.2.2.2.1
theorem dX9_init_14 : decode cX9_init 14 = .ok (.aload_n 0, 1) := gdX9_init_0.2.2.2.2.2.2.2.2.1
theorem dX9_init_15 : decode cX9_init 15 = .ok (.aload_n 3, 1) := gdX9_init_0.2.2.2.2.2.2.2.2.2.1
theorem dX9_init_16 : decode cX9_init 16 = .ok (.putfield 19, 3) := gdX9_init_0.2.2.2.2.2.2.2.2.2.2.1
theorem dX9_init_19 : decode cX9_init 19 = .ok (.return_, 1) := gdX9_init_0.2.2.2.2.2.2.2.2.2.2.2
theorem gdX9_read_0 : (decode cX9_read 0 = .ok (.aload_n 0, 1)) ∧ (decode cX9_read 1 = .ok (.getfield 15, 3)) ∧ (decode cX9_read 4 = .ok (.iconst 0, 1)) ∧ (decode cX9_read 5 = .ok (.putfield 23, 3)) ∧ (decode cX9_read 8 = .ok (.aload_n 0, 1)) ∧ (decode cX9_read 9 = .ok (.getfield 15, 3)) ∧ (decode cX9_read 12 = .ok (.iconst 0, 1)) ∧ (decode cX9_read 13 = .ok (.putfield 29, 3)) ∧ (decode cX9_read 16 = .ok (.aload_n 0, 1)) ∧ (decode cX9_read 17 = .ok (.getfield 19, 3)) ∧ (decode cX9_read 20 = .ok (.iconst 0, 1)) ∧ (decode cX9_read 21 = .ok (.putfield 32, 3)) ∧ (decode cX9_read 24 = .ok (.aload_n 0, 1)) ∧ (decode cX9_read 25 = .ok (.getfield 19, 3)) ∧ (decode cX9_read 28 = .ok (.iconst 0, 1)) ∧ (decode cX9_read 29 = .ok (.putfield 37, 3)) := by decide +kernel
theorem dX9_read_0 : decode cX9_read 0 = .ok (.aload_n 0, 1) := gdX9_read_0.1
theorem dX9_read_1 : decode cX9_read 1 = .ok (.getfield 15, 3) := gdX9_read_0.2.1
theorem dX9_read_4 : decode cX9_read 4 = .ok (.iconst 0, 1) := gdX9_read_0.2.2.1
theorem dX9_read_5 : decode cX9_read 5 = .ok (.putfield 23, 3) := gdX9_read_0.2.2.2.1
theorem dX9_read_8 : decode cX9_read 8 = .ok (.aload_n 0, 1) := gdX9_read_0.2.2.2.2.1
theorem dX9_read_9 : decode cX9_read 9 = .ok (.getfield 15, 3) := gdX9_read_0.2.2.2.2.2.1
theorem dX9_read_12 : decode cX9_read 12 = .ok (.iconst 0, 1) := gdX9_read_0.2.2.2.2.2.2.1
theorem dX9_read_13 : decode cX9_read 13 = .ok (.putfield 29, 3) := gdX9_read_0.2.2.2.2.2.2.2.1
theorem dX9_read_16 : decode cX9_read 16 = .ok (.aload_n 0, 1) := gdX9_read_0.2.2.2.2.2.2.2.2.1
theorem dX9_read_17 : decode cX9_read 17 = .ok (.getfield 19, 3) := gdX9_read_0.2.2.2.2.2.2.2.2.2.1
theorem dX9_read_20 : decode cX9_read 20 = .ok (.iconst 0, 1) := gdX9_read_0.2.2.2.2.2.2.2.2.2.2.1
theorem dX9_read_21 : decode cX9_read 21 = .ok (.putfield 32, 3) := gdX9_read_0.2.2.2.2.2.2.2.2.2.2.2.1
theorem dX9_read_24 : decode cX9_read 24 = .ok (.aload_n 0, 1) := gdX9_read_0.2.2.2.2.2.2.2.2.2.2.2.2.1
theorem dX9_read_25 : decode cX9_read 25 = .ok (.getfield 19, 3) := gdX9_read_0.2.2.2.2.2.2.2.2.2.2.2.2.2.1
theorem dX9_read_28 : decode cX9_read 28 = .ok (.iconst 0, 1) := gdX9_read_0.2.2.2.2.2.2.2.2.2.2.2.2.2.2.1
theorem dX9_read_29 : decode cX9_read 29 = .ok (.putfield 37, 3) := gdX9_read_0.2.2.2.2.2.2.2.2.2.2.2.2.2.2.2
theorem gdX9_read_32 : (decode cX9_read 32 = .ok (.aload_n 0, 1)) ∧ (decode cX9_read 33 = .ok (.getfield 9, 3)) ∧ (decode cX9_read 36 = .ok (.invokevirtual 40, 3)) ∧ (decode cX9_read 39 = .ok (.iconst 0, 1)) ∧ (decode cX9_read 40 = .ok (.istore_n 1, 1)) ∧ (decode cX9_read 41 = .ok (.iload_n 1, 1)) ∧ (decode cX9_read 42 = .ok (.bipush 24, 2)) ∧ (decode cX9_read 44 = .ok (.if_icmp .gt 66, 3)) ∧ (decode cX9_read 47 = .ok (.aload_n 0, 1)) ∧ (decode cX9_read 48 = .ok (.iload_n 1, 1)) ∧ (decode cX9_read 49 = .ok (.invokevirtual 45, 3)) ∧ (decode cX9_read 52 = .ok (.ifCond .ne 5, 3)) ∧ (decode cX9_read 55 = .ok (.iconst 0, 1)) ∧ (decode cX9_read 56 = .ok (.ireturn, 1)) ∧ (decode cX9_read 57 = .ok (.aload_n 0, 1)) ∧ (decode cX9_read 58 = .ok (.getfield 9, 3)) := by decide +kernel
theorem dX9_read_32 : decode cX9_read 32 = .ok (.aload_n 0, 1) := gdX9_read_32.1
theorem dX9_read_33 : decode cX9_read 33 = .ok (.getfield 9, 3) := gdX9_read_32.2.1
theorem dX9_read_36 : decode cX9_read 36 = .ok (.invokevirtual 40, 3) := gdX9_read_32.2.2.1
theorem dX9_read_39 : decode cX9_read 39 = .ok (.iconst 0, 1) := gdX9_read_32.2.2.2.1
theorem dX9_read_40 : decode cX9_read 40 = .ok (.istore_n 1, 1) := gdX9_read_32.2.2.2.2.1
theorem dX9_read_41 : decode cX9_read 41 = .ok (.iload_n 1, 1) := gdX9_read_32.2.2.2.2.2.1
theorem dX9_read_42 : decode cX9_read 42 = .ok (.bipush 24, 2) := gdX9_read_32.2.2.2.2.2.2.1
theorem dX9_read_44 : decode cX9_read 44 = .ok (.if_icmp .gt 66, 3) := gdX9_read_32.2.2.2.2.2.2.2.1
theorem dX9_read_47 : decode cX9_read 47 = .ok (.aload_n 0, 1) := gdX9_read_32.2.2.2.2.2.2.2.2.1
theorem dX9_read_48 : decode cX9_read 48 = .ok (.iload_n 1, 1) := gdX9_read_32.2.2.2.2.2.2.2.2.2.1
theorem dX9_read_49 : decode cX9_read 49 = .ok (.invokevirtual 45, 3) := gdX9_read_32.2.2.2.2.2.2.2.2.2.2.1
theorem dX9_read_52 : decode cX9_read 52 = .ok (.ifCond .ne 5, 3) := gdX9_read_32.2.2.2.2.2.2.2.2.2.2.2.1
theorem dX9_read_55 : decode cX9_read 55 = .ok (.iconst 0, 1) := gdX9_read_32.2.2.2.2.2.2.2.2.2.2.2.2.1
theorem dX9_read_56 : decode cX9_read 56 = .ok (.ireturn, 1) := gdX9_read_32.2.2.2.2.2.2.2.2.2.2.2.2.2.1
theorem dX9_read_57 : decode cX9_read 57 = .ok (.aload_n 0, 1) := gdX9_read_32.2.2.2.2.2.2.2.2.2.2.2.2.2.2.1
theorem dX9_read_58 : decode cX9_read 58 = .ok (.getfield 9, 3) := gdX9_read_32.2.2.2.2.2.2.2.2.2.2.2.2.2.2.2
theorem gdX9_read_61 : (decode cX9_read 61 = .ok (.invokevirtual 49, 3)) ∧ (decode cX9_read 64 = .ok (.ifCond .eq 12, 3)) ∧ (decode cX9_read 67 = .ok (.aload_n 0, 1)) ∧ (decode cX9_read 68 = .ok (.getfield 15, 3)) ∧ (decode cX9_read 71 = .ok (.invokevirtual 53, 3)) ∧ (decode cX9_read 74 = .ok (.iconst 1, 1)) ∧ (decode cX9_read 75 = .ok (.ireturn, 1)) ∧ (decode cX9_read 76 = .ok (.aload_n 0, 1)) ∧ (decode cX9_read 77 = .ok (.getfield 9, 3)) ∧ (decode cX9_read 80 = .ok (.bipush 59, 2)) ∧ (decode cX9_read 82 = .ok (.invokevirtual 56, 3)) ∧ (decode cX9_read 85 = .ok (.ifCond .ne 19, 3)) ∧ (decode cX9_read 88 = .ok (.aload_n 0, 1)) ∧ (decode cX9_read 89 = .ok (.getfield 9, 3)) ∧ (decode cX9_read 92 = .ok (.aload_n 0, 1)) ∧ (decode cX9_read 93 = .ok (.getfield 9, 3)) := by decide +kernel
theorem dX9_read_61 : decode cX9_read 61 = .ok (.invokevirtual 49, 3) := gdX9_read_61.1
theorem dX9_read_64 : decode cX9_read 64 = .ok (.ifCond .eq 12, 3) := gdX9_read_61.2.1
theorem dX9_read_67 : decode cX9_read 67 = .ok (.aload_n 0, 1) := gdX9_read_61.2.2.1
theorem dX9_read_68 : decode cX9_read 68 = .ok (.getfield 15, 3) := gdX9_read_61.2.2.2.1
theorem dX9_read_71 : decode cX9_read 71 = .ok (.invokevirtual 53, 3) := gdX9_read_61.2.2.2.2.1
theorem dX9_read_74 : decode cX9_read 74 = .ok (.iconst 1, 1) := gdX9_read_61.2.2.2.2.2.1
theorem dX9_read_75 : decode cX9_read 75 = .ok (.ireturn, 1) := gdX9_read_61.2.2.2.2.2.2.1
theorem dX9_read_76 : decode cX9_read 76 = .ok (.aload_n 0, 1) := gdX9_read_61.2.2.2.2.2.2.2.1
theorem dX9_read_77 : decode cX9_read 77 = .ok (.getfield 9, 3) := gdX9_read_61.2.2.2.2.2.2.2.2.1
theorem dX9_read_80 : decode cX9_read 80 = .ok (.bipush 59, 2) := gdX9_read_61.2.2.2.2.2.2.2.2.2.1
theorem dX9_read_82 : decode cX9_read 82 = .ok (.invokevirtual 56, 3) := gdX9_read_61.2.2.2.2.2.2.2.2.2.2.1
theorem dX9_read_85 : decode cX9_read 85 = .ok (.ifCond .ne 19, 3) := gdX9_read_61.2.2.2.2.2.2.2.2.2.2.2.1
theorem dX9_read_88 : decode cX9_read 88 = .ok (.aload_n 0, 1) := gdX9_read_61.2.2.2.2.2.2.2.2.2.2.2.2.1
theorem dX9_read_89 : decode cX9_read 89 = .ok (.getfield 9, 3) := gdX9_read_61.2.2.2.2.2.2.2.2.2.2.2.2.2.1
theorem dX9_read_92 : decode cX9_read 92 = .ok (.aload_n 0, 1) := gdX9_read_61.2.2.2.2.2.2.2.2.2.2.2.2.2.2.1
theorem dX9_read_93 : decode cX9_read 93 = .ok (.getfield 9, 3) := gdX9_read_61.2.2.2.2.2.2.2.2.2.2.2.2.2.2.2
theorem gdX9_read_96 : (decode cX9_read 96 = .ok (.getfield 60, 3)) ∧ (decode cX9_read 99 = .ok (.iconst 0, 1)) ∧ (decode cX9_read 100 = .ok (.invokevirtual 63, 3)) ∧ (decode cX9_read 103 = .ok (.ireturn, 1)) ∧ (decode cX9_read 104 = .ok (.iinc 1 1, 3)) ∧ (decode cX9_read 107 = .ok (.goto (-66), 3)) ∧ (decode cX9_read 110 = .ok (.iconst 0, 1)) ∧ (decode cX9_read 111 = .ok (.ireturn, 1)) := by decide +kernel
theorem dX9_read_96 : decode cX9_read 96 = .ok (.getfield 60, 3) := gdX9_read_96.1
theorem dX9_read_99 : decode cX9_read 99 = .ok (.iconst 0, 1) := gdX9_read_96.2.1
theorem dX9_read_100 : decode cX9_read 100 = .ok (.invokevirtual 63, 3) := gdX9_read_96.2.2.1
theorem dX9_read_103 : decode cX9_read 103 = .ok (.ireturn, 1) := gdX9_read_96.2.2.2.1
theorem dX9_read_104 : decode cX9_read 104 = .ok (.iinc 1 1, 3) := gdX9_read_96.2.2.2.2.1
theorem dX9_read_107 : decode cX9_read 107 = .ok (.goto (-66), 3) := gdX9_read_96.2.2.2.2.2.1
theorem dX9_read_110 : decode cX9_read 110 = .ok (.iconst 0, 1) := gdX9_read_96.2.2.2.2.2.2.1
theorem dX9_read_111 : decode cX9_read 111 = .ok (.ireturn, 1) := gdX9_read_96.2.2.2.2.2.2.2
theorem gdX9_readClause_0 : (decode cX9_readClause 0 = .ok (.aload_n 0, 1)) ∧ (decode cX9_readClause 1 = .ok (.getfield 9, 3)) ∧ (decode cX9_readClause 4 = .ok (.ldc 67, 2)) ∧ (decode cX9_readClause 6 = .ok (.invokevirtual 69, 3)) ∧ (decode cX9_readClause 9 = .ok (.istore_n 2, 1)) ∧ (decode cX9_readClause 10 = .ok (.iload_n 2, 1)) ∧ (decode cX9_readClause 11 = .ok (.ifCond .ne 19, 3)) ∧ (decode cX9_readClause 14 = .ok (.aload_n 0, 1)) ∧ (decode cX9_readClause 15 = .ok (.getfield 9, 3)) ∧ (decode cX9_readClause 18 = .ok (.ldc 73, 2)) ∧ (decode cX9_readClause 20 = .ok (.invokevirtual 69, 3)) ∧ (decode cX9_readClause 23 = .ok (.ifCond .eq 7, 3)) ∧ (decode cX9_readClause 26 = .ok (.iconst 1, 1)) ∧ (decode cX9_readClause 27 = .ok (.goto 4, 3)) ∧ (decode cX9_readClause 30 = .ok (.iconst 0, 1)) ∧ (decode cX9_readClause 31 = .ok (.istore_n 3, 1)) := by decide +kernel
theorem dX9_readClause_0 : decode cX9_readClause 0 = .ok (.aload_n 0, 1) := gdX9_readClause_0.1
theorem dX9_readClause_1 : decode cX9_readClause 1 = .ok (.getfield 9, 3) := gdX9_readClause_0.2.1
theorem dX9_readClause_4 : decode cX9_readClause 4 = .ok (.ldc 67, 2) := gdX9_readClause_0.2.2.1
theorem dX9_readClause_6 : decode cX9_readClause 6 = .ok (.invokevirtual 69, 3) := gdX9_readClause_0.2.2.2.1
theorem dX9_readClause_9 : decode cX9_readClause 9 = .ok (.istore_n 2, 1) := gdX9_readClause_0.2.2.2.2.1
theorem dX9_readClause_10 : decode cX9_readClause 10 = .ok (.iload_n 2, 1) := gdX9_readClause_0.2.2.2.2.2.1
theorem dX9_readClause_11 : decode cX9_readClause 11 = .ok (.ifCond .ne 19, 3) := gdX9_readClause_0.2.2.2.2.2.2.1
theorem dX9_readClause_14 : decode cX9_readClause 14 = .ok (.aload_n 0, 1) := gdX9_readClause_0.2.2.2.2.2.2.2.1
theorem dX9_readClause_15 : decode cX9_readClause 15 = .ok (.getfield 9, 3) := gdX9_readClause_0.2.2.2.2.2.2.2.2.1
theorem dX9_readClause_18 : decode cX9_readClause 18 = .ok (.ldc 73, 2) := gdX9_readClause_0.2.2.2.2.2.2.2.2.2.1
theorem dX9_readClause_20 : decode cX9_readClause 20 = .ok (.invokevirtual 69, 3) := gdX9_readClause_0.2.2.2.2.2.2.2.2.2.2.1
theorem dX9_readClause_23 : decode cX9_readClause 23 = .ok (.ifCond .eq 7, 3) := gdX9_readClause_0.2.2.2.2.2.2.2.2.2.2.2.1
theorem dX9_readClause_26 : decode cX9_readClause 26 = .ok (.iconst 1, 1) := gdX9_readClause_0.2.2.2.2.2.2.2.2.2.2.2.2.1
theorem dX9_readClause_27 : decode cX9_readClause 27 = .ok (.goto 4, 3) := gdX9_readClause_0.2.2.2.2.2.2.2.2.2.2.2.2.2.1
theorem dX9_readClause_30 : decode cX9_readClause 30 = .ok (.iconst 0, 1) := gdX9_readClause_0.2.2.2.2.2.2.2.2.2.2.2.2.2.2.1
theorem dX9_readClause_31 : decode cX9_readClause 31 = .ok (.istore_n 3, 1) := gdX9_readClause_0.2.2.2.2.2.2.2.2.2.2.2.2.2.2.2
theorem gdX9_readClause_32 : (decode cX9_readClause 32 = .ok (.iload_n 2, 1)) ∧ (decode cX9_readClause 33 = .ok (.ifCond .ne 23, 3)) ∧ (decode cX9_readClause 36 = .ok (.iload_n 3, 1)) ∧ (decode cX9_readClause 37 = .ok (.ifCond .ne 19, 3)) ∧ (decode cX9_readClause 40 = .ok (.aload_n 0, 1)) ∧ (decode cX9_readClause 41 = .ok (.getfield 9, 3)) ∧ (decode cX9_readClause 44 = .ok (.ldc 75, 2)) ∧ (decode cX9_readClause 46 = .ok (.invokevirtual 69, 3)) ∧ (decode cX9_readClause 49 = .ok (.ifCond .eq 7, 3)) ∧ (decode cX9_readClause 52 = .ok (.iconst 1, 1)) ∧ (decode cX9_readClause 53 = .ok (.goto 4, 3)) ∧ (decode cX9_readClause 56 = .ok (.iconst 0, 1)) ∧ (decode cX9_readClause 57 = .ok (.istore 4, 2)) ∧ (decode cX9_readClause 59 = .ok (.iload_n 2, 1)) ∧ (decode cX9_readClause 60 = .ok (.ifCond .ne 28, 3)) ∧ (decode cX9_readClause 63 = .ok (.iload_n 3, 1)) := by decide +kernel
theorem dX9_readClause_32 : decode cX9_readClause 32 = .ok (.iload_n 2, 1) := gdX9_readClause_32.1
theorem dX9_readClause_33 : decode cX9_readClause 33 = .ok (.ifCond .ne 23, 3) := gdX9_readClause_32.2.1
theorem dX9_readClause_36 : decode cX9_readClause 36 = .ok (.iload_n 3, 1) := gdX9_readClause_32.2.2.1
theorem dX9_readClause_37 : decode cX9_readClause 37 = .ok (.ifCond .ne 19, 3) := gdX9_readClause_32.2.2.2.1
theorem dX9_readClause_40 : decode cX9_readClause 40 = .ok (.aload_n 0, 1) := gdX9_readClause_32.2.2.2.2.1
theorem dX9_readClause_41 : decode cX9_readClause 41 = .ok (.getfield 9, 3) := gdX9_readClause_32.2.2.2.2.2.1
theorem dX9_readClause_44 : decode cX9_readClause 44 = .ok (.ldc 75, 2) := gdX9_readClause_32.2.2.2.2.2.2.1
theorem dX9_readClause_46 : decode cX9_readClause 46 = .ok (.invokevirtual 69, 3) := gdX9_readClause_32.2.2.2.2.2.2.2.1
theorem dX9_readClause_49 : decode cX9_readClause 49 = .ok (.ifCond .eq 7, 3) := gdX9_readClause_32.2.2.2.2.2.2.2.2.1
theorem dX9_readClause_52 : decode cX9_readClause 52 = .ok (.iconst 1, 1) := gdX9_readClause_32.2.2.2.2.2.2.2.2.2.1
theorem dX9_readClause_53 : decode cX9_readClause 53 = .ok (.goto 4, 3) := gdX9_readClause_32.2.2.2.2.2.2.2.2.2.2.1
theorem dX9_readClause_56 : decode cX9_readClause 56 = .ok (.iconst 0, 1) := gdX9_readClause_32.2.2.2.2.2.2.2.2.2.2.2.1
theorem dX9_readClause_57 : decode cX9_readClause 57 = .ok (.istore 4, 2) := gdX9_readClause_32.2.2.2.2.2.2.2.2.2.2.2.2.1
theorem dX9_readClause_59 : decode cX9_readClause 59 = .ok (.iload_n 2, 1) := gdX9_readClause_32.2.2.2.2.2.2.2.2.2.2.2.2.2.1
theorem dX9_readClause_60 : decode cX9_readClause 60 = .ok (.ifCond .ne 28, 3) := gdX9_readClause_32.2.2.2.2.2.2.2.2.2.2.2.2.2.2.1
theorem dX9_readClause_63 : decode cX9_readClause 63 = .ok (.iload_n 3, 1) := gdX9_readClause_32.2.2.2.2.2.2.2.2.2.2.2.2.2.2.2
theorem gdX9_readClause_64 : (decode cX9_readClause 64 = .ok (.ifCond .ne 24, 3)) ∧ (decode cX9_readClause 67 = .ok (.iload 4, 2)) ∧ (decode cX9_readClause 69 = .ok (.ifCond .ne 19, 3)) ∧ (decode cX9_readClause 72 = .ok (.aload_n 0, 1)) ∧ (decode cX9_readClause 73 = .ok (.getfield 9, 3)) ∧ (decode cX9_readClause 76 = .ok (.aload_n 0, 1)) ∧ (decode cX9_readClause 77 = .ok (.getfield 9, 3)) ∧ (decode cX9_readClause 80 = .ok (.getfield 60, 3)) ∧ (decode cX9_readClause 83 = .ok (.iconst 0, 1)) ∧ (decode cX9_readClause 84 = .ok (.invokevirtual 63, 3)) ∧ (decode cX9_readClause 87 = .ok (.ireturn, 1)) ∧ (decode cX9_readClause 88 = .ok (.iload_n 2, 1)) ∧ (decode cX9_readClause 89 = .ok (.ifCond .eq 15, 3)) ∧ (decode cX9_readClause 92 = .ok (.aload_n 0, 1)) ∧ (decode cX9_readClause 93 = .ok (.getfield 15, 3)) ∧ (decode cX9_readClause 96 = .ok (.getfield 23, 3)) := by decide +kernel
theorem dX9_readClause_64 : decode cX9_readClause 64 = .ok (.ifCond .ne 24, 3) := gdX9_readClause_64.1
theorem dX9_readClause_67 : decode cX9_readClause 67 = .ok (.iload 4, 2) := gdX9_readClause_64.2.1
theorem dX9_readClause_69 : decode cX9_readClause 69 = .ok (.ifCond .ne 19, 3) := gdX9_readClause_64.2.2.1
theorem dX9_readClause_72 : decode cX9_readClause 72 = .ok (.aload_n 0, 1) := gdX9_readClause_64.2.2.2.1
theorem dX9_readClause_73 : decode cX9_readClause 73 = .ok (.getfield 9, 3) := gdX9_readClause_64.2.2.2.2.1
theorem dX9_readClause_76 : decode cX9_readClause 76 = .ok (.aload_n 0, 1) := gdX9_readClause_64.2.2.2.2.2.1
theorem dX9_readClause_77 : decode cX9_readClause 77 = .ok (.getfield 9, 3) := gdX9_readClause_64.2.2.2.2.2.2.1
theorem dX9_readClause_80 : decode cX9_readClause 80 = .ok (.getfield 60, 3) := gdX9_readClause_64.2.2.2.2.2.2.2.1
theorem dX9_readClause_83 : decode cX9_readClause 83 = .ok (.iconst 0, 1) := gdX9_readClause_64.2.2.2.2.2.2.2.2.1
theorem dX9_readClause_84 : decode cX9_readClause 84 = .ok (.invokevirtual 63, 3) := gdX9_readClause_64.2.2.2.2.2.2.2.2.2.1
theorem dX9_readClause_87 : decode cX9_readClause 87 = .ok (.ireturn, 1) := gdX9_readClause_64.2.2.2.2.2.2.2.2.2.2.1
theorem dX9_readClause_88 : decode cX9_readClause 88 = .ok (.iload_n 2, 1) := gdX9_readClause_64.2.2.2.2.2.2.2.2.2.2.2.1
theorem dX9_readClause_89 : decode cX9_readClause 89 = .ok (.ifCond .eq 15, 3) := gdX9_readClause_64.2.2.2.2.2.2.2.2.2.2.2.2.1
theorem dX9_readClause_92 : decode cX9_readClause 92 = .ok (.aload_n 0, 1) := gdX9_readClause_64.2.2.2.2.2.2.2.2.2.2.2.2.2.1
theorem dX9_readClause_93 : decode cX9_readClause 93 = .ok (.getfield 15, 3) := gdX9_readClause_64.2.2.2.2.2.2.2.2.2.2.2.2.2.2.1
theorem dX9_readClause_96 : decode cX9_readClause 96 = .ok (.getfield 23, 3) := gdX9_readClause_64.2.2.2.2.2.2.2.2.2.2.2.2.2.2.2
theorem gdX9_readClause_99 : (decode cX9_readClause 99 = .ok (.bipush 10, 2)) ∧ (decode cX9_readClause 101 = .ok (.if_icmp .ge 36, 3)) ∧ (decode cX9_readClause 104 = .ok (.iload_n 3, 1)) ∧ (decode cX9_readClause 105 = .ok (.ifCond .eq 15, 3)) ∧ (decode cX9_readClause 108 = .ok (.aload_n 0, 1)) ∧ (decode cX9_readClause 109 = .ok (.getfield 15, 3)) ∧ (decode cX9_readClause 112 = .ok (.getfield 29, 3)) ∧ (decode cX9_readClause 115 = .ok (.bipush 12, 2)) ∧ (decode cX9_readClause 117 = .ok (.if_icmp .ge 20, 3)) ∧ (decode cX9_readClause 120 = .ok (.iload 4, 2)) ∧ (decode cX9_readClause 122 = .ok (.ifCond .eq 19, 3)) ∧ (decode cX9_readClause 125 = .ok (.aload_n 0, 1)) ∧ (decode cX9_readClause 126 = .ok (.getfield 19, 3)) ∧ (decode cX9_readClause 129 = .ok (.getfield 32, 3)) ∧ (decode cX9_readClause 132 = .ok (.bipush 8, 2)) ∧ (decode cX9_readClause 134 = .ok (.if_icmp .lt 7, 3)) := by decide +kernel
theorem dX9_readClause_99 : decode cX9_readClause 99 = .ok (.bipush 10, 2) := gdX9_readClause_99.1
theorem dX9_readClause_101 : decode cX9_readClause 101 = .ok (.if_icmp .ge 36, 3) := gdX9_readClause_99.2.1
theorem dX9_readClause_104 : decode cX9_readClause 104 = .ok (.iload_n 3, 1) := gdX9_readClause_99.2.2.1
theorem dX9_readClause_105 : decode cX9_readClause 105 = .ok (.ifCond .eq 15, 3) := gdX9_readClause_99.2.2.2.1
theorem dX9_readClause_108 : decode cX9_readClause 108 = .ok (.aload_n 0, 1) := gdX9_readClause_99.2.2.2.2.1
theorem dX9_readClause_109 : decode cX9_readClause 109 = .ok (.getfield 15, 3) := gdX9_readClause_99.2.2.2.2.2.1
theorem dX9_readClause_112 : decode cX9_readClause 112 = .ok (.getfield 29, 3) := gdX9_readClause_99.2.2.2.2.2.2.1
theorem dX9_readClause_115 : decode cX9_readClause 115 = .ok (.bipush 12, 2) := gdX9_readClause_99.2.2.2.2.2.2.2.1
theorem dX9_readClause_117 : decode cX9_readClause 117 = .ok (.if_icmp .ge 20, 3) := gdX9_readClause_99.2.2.2.2.2.2.2.2.1
theorem dX9_readClause_120 : decode cX9_readClause 120 = .ok (.iload 4, 2) := gdX9_readClause_99.2.2.2.2.2.2.2.2.2.1
theorem dX9_readClause_122 : decode cX9_readClause 122 = .ok (.ifCond .eq 19, 3) := gdX9_readClause_99.2.2.2.2.2.2.2.2.2.2.1
theorem dX9_readClause_125 : decode cX9_readClause 125 = .ok (.aload_n 0, 1) := gdX9_readClause_99.2.2.2.2.2.2.2.2.2.2.2.1
theorem dX9_readClause_126 : decode cX9_readClause 126 = .ok (.getfield 19, 3) := gdX9_readClause_99.2.2.2.2.2.2.2.2.2.2.2.2.1
theorem dX9_readClause_129 : decode cX9_readClause 129 = .ok (.getfield 32, 3) := gdX9_readClause_99.2.2.2.2.2.2.2.2.2.2.2.2.2.1
theorem dX9_readClause_132 : decode cX9_readClause 132 = .ok (.bipush 8, 2) := gdX9_readClause_99.2.2.2.2.2.2.2.2.2.2.2.2.2.2.1
theorem dX9_readClause_134 : decode cX9_readClause 134 = .ok (.if_icmp .lt 7, 3) := gdX9_readClause_99.2.2.2.2.2.2.2.2.2.2.2.2.2.2.2
theorem gdX9_readClause_137 : (decode cX9_readClause 137 = .ok (.iconst 1, 1)) ∧ (decode cX9_readClause 138 = .ok (.goto 4, 3)) ∧ (decode cX9_readClause 141 = .ok (.iconst 0, 1)) ∧ (decode cX9_readClause 142 = .ok (.istore 5, 2)) ∧ (decode cX9_readClause 144 = .ok (.iload 5, 2)) ∧ (decode cX9_readClause 146 = .ok (.ifCond .ne 9, 3)) ∧ (decode cX9_readClause 149 = .ok (.iload_n 1, 1)) ∧ (decode cX9_readClause 150 = .ok (.bipush 24, 2)) ∧ (decode cX9_readClause 152 = .ok (.if_icmp .lt 19, 3)) ∧ (decode cX9_readClause 155 = .ok (.aload_n 0, 1)) ∧ (decode cX9_readClause 156 = .ok (.getfield 9, 3)) ∧ (decode cX9_readClause 159 = .ok (.aload_n 0, 1)) ∧ (decode cX9_readClause 160 = .ok (.getfield 9, 3)) ∧ (decode cX9_readClause 163 = .ok (.getfield 77, 3)) ∧ (decode cX9_readClause 166 = .ok (.iconst 4, 1)) ∧ (decode cX9_readClause 167 = .ok (.invokevirtual 63, 3)) := by decide +kernel
theorem dX9_readClause_137 : decode cX9_readClause 137 = .ok (.iconst 1, 1) := gdX9_readClause_137.1
theorem dX9_readClause_138 : decode cX9_readClause 138 = .ok (.goto 4, 3) := gdX9_readClause_137.2.1
theorem dX9_readClause_141 : decode cX9_readClause 141 = .ok (.iconst 0, 1) := gdX9_readClause_137.2.2.1
theorem dX9_readClause_142 : decode cX9_readClause 142 = .ok (.istore 5, 2) := gdX9_readClause_137.2.2.2.1
theorem dX9_readClause_144 : decode cX9_readClause 144 = .ok (.iload 5, 2) := gdX9_readClause_137.2.2.2.2.1
theorem dX9_readClause_146 : decode cX9_readClause 146 = .ok (.ifCond .ne 9, 3) := gdX9_readClause_137.2.2.2.2.2.1
theorem dX9_readClause_149 : decode cX9_readClause 149 = .ok (.iload_n 1, 1) := gdX9_readClause_137.2.2.2.2.2.2.1
theorem dX9_readClause_150 : decode cX9_readClause 150 = .ok (.bipush 24, 2) := gdX9_readClause_137.2.2.2.2.2.2.2.1
theorem dX9_readClause_152 : decode cX9_readClause 152 = .ok (.if_icmp .lt 19, 3) := gdX9_readClause_137.2.2.2.2.2.2.2.2.1
theorem dX9_readClause_155 : decode cX9_readClause 155 = .ok (.aload_n 0, 1) := gdX9_readClause_137.2.2.2.2.2.2.2.2.2.1
theorem dX9_readClause_156 : decode cX9_readClause 156 = .ok (.getfield 9, 3) := gdX9_readClause_137.2.2.2.2.2.2.2.2.2.2.1
theorem dX9_readClause_159 : decode cX9_readClause 159 = .ok (.aload_n 0, 1) := gdX9_readClause_137.2.2.2.2.2.2.2.2.2.2.2.1
theorem dX9_readClause_160 : decode cX9_readClause 160 = .ok (.getfield 9, 3) := gdX9_readClause_137.2.2.2.2.2.2.2.2.2.2.2.2.1
theorem dX9_readClause_163 : decode cX9_readClause 163 = .ok (.getfield 77, 3) := gdX9_readClause_137.2.2.2.2.2.2.2.2.2.2.2.2.2.1
theorem dX9_readClause_166 : decode cX9_readClause 166 = .ok (.iconst 4, 1) := gdX9_readClause_137.2.2.2.2.2.2.2.2.2.2.2.2.2.2.1
theorem dX9_readClause_167 : decode cX9_readClause 167 = .ok (.invokevirtual 63, 3) := gdX9_readClause_137.2.2.2.2.2.2.2.2.2.2.2.2.2.2.2
theorem gdX9_readClause_170 : (decode cX9_readClause 170 = .ok (.ireturn, 1)) ∧ (decode cX9_readClause 171 = .ok (.iload_n 2, 1)) ∧ (decode cX9_readClause 172 = .ok (.ifCond .eq 8, 3)) ∧ (decode cX9_readClause 175 = .ok (.aload_n 0, 1)) ∧ (decode cX9_readClause 176 = .ok (.invokevirtual 80, 3)) ∧ (decode cX9_readClause 179 = .ok (.ireturn, 1)) ∧ (decode cX9_readClause 180 = .ok (.iload_n 3, 1)) ∧ (decode cX9_readClause 181 = .ok (.ifCond .eq 10, 3)) ∧ (decode cX9_readClause 184 = .ok (.aload_n 0, 1)) ∧ (decode cX9_readClause 185 = .ok (.invokevirtual 83, 3)) ∧ (decode cX9_readClause 188 = .ok (.goto 7, 3)) ∧ (decode cX9_readClause 191 = .ok (.aload_n 0, 1)) ∧ (decode cX9_readClause 192 = .ok (.invokevirtual 86, 3)) ∧ (decode cX9_readClause 195 = .ok (.ireturn, 1)) := by decide +kernel
theorem dX9_readClause_170 : decode cX9_readClause 170 = .ok (.ireturn, 1) := gdX9_readClause_170.1
theorem dX9_readClause_171 : decode cX9_readClause 171 = .ok (.iload_n 2, 1) := gdX9_readClause_170.2.1
theorem dX9_readClause_172 : decode cX9_readClause 172 = .ok (.ifCond .eq 8, 3) := gdX9_readClause_170.2.2.1
theorem dX9_readClause_175 : decode cX9_readClause 175 = .ok (.aload_n 0, 1) := gdX9_readClause_170.2.2.2.1
theorem dX9_readClause_176 : decode cX9_readClause 176 = .ok (.invokevirtual 80, 3) := gdX9_readClause_170.2.2.2.2.1
theorem dX9_readClause_179 : decode cX9_readClause 179 = .ok (.ireturn, 1) := gdX9_readClause_170.2.2.2.2.2.1
theorem dX9_readClause_180 : decode cX9_readClause 180 = .ok (.iload_n 3, 1) := gdX9_readClause_170.2.2.2.2.2.2.1
theorem dX9_readClause_181 : decode cX9_readClause 181 = .ok (.ifCond .eq 10, 3) := gdX9_readClause_170.2.2.2.2.2.2.2.1
theorem dX9_readClause_184 : decode cX9_readClause 184 = .ok (.aload_n 0, 1) := gdX9_readClause_170.2.2.2.2.2.2.2.2.1
theorem dX9_readClause_185 : decode cX9_readClause 185 = .ok (.invokevirtual 83, 3) := gdX9_readClause_170.2.2.2.2.2.2.2.2.2.1
theorem dX9_readClause_188 : decode cX9_readClause 188 = .ok (.goto 7, 3) := gdX9_readClause_170.2.2.2.2.2.2.2.2.2.2.1
theorem dX9_readClause_191 : decode cX9_readClause 191 = .ok (.aload_n 0, 1) := gdX9_readClause_170.2.2.2.2.2.2.2.2.2.2.2.1
theorem dX9_readClause_192 : decode cX9_readClause 192 = .ok (.invokevirtual 86, 3) := gdX9_readClause_170.2.2.2.2.2.2.2.2.2.2.2.2.1
theorem dX9_readClause_195 : decode cX9_readClause 195 = .ok (.ireturn, 1) := gdX9_readClause_170.2.2.2.2.2.2.2.2.2.2.2.2.2
theorem gdX9_readFloor_0 : (decode cX9_readFloor 0 = .ok (.aload_n 0, 1)) ∧ (decode cX9_readFloor 1 = .ok (.invokevirtual 89, 3)) ∧ (decode cX9_readFloor 4 = .ok (.lstore_n 1, 1)) ∧ (decode cX9_readFloor 5 = .ok (.lload_n 1, 1)) ∧ (decode cX9_readFloor 6 = .ok (.lconst 0, 1)) ∧ (decode cX9_readFloor 7 = .ok (.lcmp, 1)) ∧ (decode cX9_readFloor 8 = .ok (.ifCond .ge 5, 3)) ∧ (decode cX9_readFloor 11 = .ok (.iconst 0, 1)) ∧ (decode cX9_readFloor 12 = .ok (.ireturn, 1)) ∧ (decode cX9_readFloor 13 = .ok (.aload_n 0, 1)) ∧ (decode cX9_readFloor 14 = .ok (.getfield 15, 3)) ∧ (decode cX9_readFloor 17 = .ok (.getfield 93, 3)) ∧ (decode cX9_readFloor 20 = .ok (.aload_n 0, 1)) ∧ (decode cX9_readFloor 21 = .ok (.getfield 15, 3)) ∧ (decode cX9_readFloor 24 = .ok (.getfield 23, 3)) ∧ (decode cX9_readFloor 27 = .ok (.lload_n 1, 1)) := by decide +kernel
theorem dX9_readFloor_0 : decode cX9_readFloor 0 = .ok (.aload_n 0, 1) := gdX9_readFloor_0.1
theorem dX9_readFloor_1 : decode cX9_readFloor 1 = .ok (.invokevirtual 89, 3) := gdX9_readFloor_0.2.1
theorem dX9_readFloor_4 : decode cX9_readFloor 4 = .ok (.lstore_n 1, 1) := gdX9_readFloor_0.2.2.1
theorem dX9_readFloor_5 : decode cX9_readFloor 5 = .ok (.lload_n 1, 1) := gdX9_readFloor_0.2.2.2.1
theorem dX9_readFloor_6 : decode cX9_readFloor 6 = .ok (.lconst 0, 1) := gdX9_readFloor_0.2.2.2.2.1
theorem dX9_readFloor_7 : decode cX9_readFloor 7 = .ok (.lcmp, 1) := gdX9_readFloor_0.2.2.2.2.2.1
theorem dX9_readFloor_8 : decode cX9_readFloor 8 = .ok (.ifCond .ge 5, 3) := gdX9_readFloor_0.2.2.2.2.2.2.1
theorem dX9_readFloor_11 : decode cX9_readFloor 11 = .ok (.iconst 0, 1) := gdX9_readFloor_0.2.2.2.2.2.2.2.1
theorem dX9_readFloor_12 : decode cX9_readFloor 12 = .ok (.ireturn, 1) := gdX9_readFloor_0.2.2.2.2.2.2.2.2.1
theorem dX9_readFloor_13 : decode cX9_readFloor 13 = .ok (.aload_n 0, 1) := gdX9_readFloor_0.2.2.2.2.2.2.2.2.2.1
theorem dX9_readFloor_14 : decode cX9_readFloor 14 = .ok (.getfield 15, 3) := gdX9_readFloor_0.2.2.2.2.2.2.2.2.2.2.1
theorem dX9_readFloor_17 : decode cX9_readFloor 17 = .ok (.getfield 93, 3) := gdX9_readFloor_0.2.2.2.2.2.2.2.2.2.2.2.1
theorem dX9_readFloor_20 : decode cX9_readFloor 20 = .ok (.aload_n 0, 1) := gdX9_readFloor_0.2.2.2.2.2.2.2.2.2.2.2.2.1
theorem dX9_readFloor_21 : decode cX9_readFloor 21 = .ok (.getfield 15, 3) := gdX9_readFloor_0.2.2.2.2.2.2.2.2.2.2.2.2.2.1
theorem dX9_readFloor_24 : decode cX9_readFloor 24 = .ok (.getfield 23, 3) := gdX9_readFloor_0.2.2.2.2.2.2.2.2.2.2.2.2.2.2.1
theorem dX9_readFloor_27 : decode cX9_readFloor 27 = .ok (.lload_n 1, 1) := gdX9_readFloor_0.2.2.2.2.2.2.2.2.2.2.2.2.2.2.2
theorem gdX9_readFloor_28 : (decode cX9_readFloor 28 = .ok (.lastore, 1)) ∧ (decode cX9_readFloor 29 = .ok (.aload_n 0, 1)) ∧ (decode cX9_readFloor 30 = .ok (.getfield 15, 3)) ∧ (decode cX9_readFloor 33 = .ok (.dup, 1)) ∧ (decode cX9_readFloor 34 = .ok (.getfield 23, 3)) ∧ (decode cX9_readFloor 37 = .ok (.iconst 1, 1)) ∧ (decode cX9_readFloor 38 = .ok (.iadd, 1)) ∧ (decode cX9_readFloor 39 = .ok (.putfield 23, 3)) ∧ (decode cX9_readFloor 42 = .ok (.iconst 1, 1)) ∧ (decode cX9_readFloor 43 = .ok (.ireturn, 1)) := by decide +kernel
theorem dX9_readFloor_28 : decode cX9_readFloor 28 = .ok (.lastore, 1) := gdX9_readFloor_28.1
theorem dX9_readFloor_29 : decode cX9_readFloor 29 = .ok (.aload_n 0, 1) := gdX9_readFloor_28.2.1
theorem dX9_readFloor_30 : decode cX9_readFloor 30 = .ok (.getfield 15, 3) := gdX9_readFloor_28.2.2.1
theorem dX9_readFloor_33 : decode cX9_readFloor 33 = .ok (.dup, 1) := gdX9_readFloor_28.2.2.2.1
theorem dX9_readFloor_34 : decode cX9_readFloor 34 = .ok (.getfield 23, 3) := gdX9_readFloor_28.2.2.2.2.1
theorem dX9_readFloor_37 : decode cX9_readFloor 37 = .ok (.iconst 1, 1) := gdX9_readFloor_28.2.2.2.2.2.1
theorem dX9_readFloor_38 : decode cX9_readFloor 38 = .ok (.iadd, 1) := gdX9_readFloor_28.2.2.2.2.2.2.1
theorem dX9_readFloor_39 : decode cX9_readFloor 39 = .ok (.putfield 23, 3) := gdX9_readFloor_28.2.2.2.2.2.2.2.1
theorem dX9_readFloor_42 : decode cX9_readFloor 42 = .ok (.iconst 1, 1) := gdX9_readFloor_28.2.2.2.2.2.2.2.2.1
theorem dX9_readFloor_43 : decode cX9_readFloor 43 = .ok (.ireturn, 1) := gdX9_readFloor_28.2.2.2.2.2.2.2.2.2
theorem gdX9_readStair_0 : (decode cX9_readStair 0 = .ok (.aload_n 0, 1)) ∧ (decode cX9_readStair 1 = .ok (.getfield 9, 3)) ∧ (decode cX9_readStair 4 = .ok (.iconst 0, 1)) ∧ (decode cX9_readStair 5 = .ok (.aload_n 0, 1)) ∧ (decode cX9_readStair 6 = .ok (.getfield 15, 3)) ∧ (decode cX9_readStair 9 = .ok (.getfield 23, 3)) ∧ (decode cX9_readStair 12 = .ok (.iconst 1, 1)) ∧ (decode cX9_readStair 13 = .ok (.isub, 1)) ∧ (decode cX9_readStair 14 = .ok (.invokevirtual 97, 3)) ∧ (decode cX9_readStair 17 = .ok (.istore_n 1, 1)) ∧ (decode cX9_readStair 18 = .ok (.iload_n 1, 1)) ∧ (decode cX9_readStair 19 = .ok (.ifCond .ge 5, 3)) ∧ (decode cX9_readStair 22 = .ok (.iconst 0, 1)) ∧ (decode cX9_readStair 23 = .ok (.ireturn, 1)) ∧ (decode cX9_readStair 24 = .ok (.aload_n 0, 1)) ∧ (decode cX9_readStair 25 = .ok (.getfield 9, 3)) := by decide +kernel
theorem dX9_readStair_0 : decode cX9_readStair 0 = .ok (.aload_n 0, 1) := gdX9_readStair_0.1
theorem dX9_readStair_1 : decode cX9_readStair 1 = .ok (.getfield 9, 3) := gdX9_readStair_0.2.1
theorem dX9_readStair_4 : decode cX9_readStair 4 = .ok (.iconst 0, 1) := gdX9_readStair_0.2.2.1
theorem dX9_readStair_5 : decode cX9_readStair 5 = .ok (.aload_n 0, 1) := gdX9_readStair_0.2.2.2.1
theorem dX9_readStair_6 : decode cX9_readStair 6 = .ok (.getfield 15, 3) := gdX9_readStair_0.2.2.2.2.1
theorem dX9_readStair_9 : decode cX9_readStair 9 = .ok (.getfield 23, 3) := gdX9_readStair_0.2.2.2.2.2.1
theorem dX9_readStair_12 : decode cX9_readStair 12 = .ok (.iconst 1, 1) := gdX9_readStair_0.2.2.2.2.2.2.1
theorem dX9_readStair_13 : decode cX9_readStair 13 = .ok (.isub, 1) := gdX9_readStair_0.2.2.2.2.2.2.2.1
theorem dX9_readStair_14 : decode cX9_readStair 14 = .ok (.invokevirtual 97, 3) := gdX9_readStair_0.2.2.2.2.2.2.2.2.1
theorem dX9_readStair_17 : decode cX9_readStair 17 = .ok (.istore_n 1, 1) := gdX9_readStair_0.2.2.2.2.2.2.2.2.2.1
theorem dX9_readStair_18 : decode cX9_readStair 18 = .ok (.iload_n 1, 1) := gdX9_readStair_0.2.2.2.2.2.2.2.2.2.2.1
theorem dX9_readStair_19 : decode cX9_readStair 19 = .ok (.ifCond .ge 5, 3) := gdX9_readStair_0.2.2.2.2.2.2.2.2.2.2.2.1
theorem dX9_readStair_22 : decode cX9_readStair 22 = .ok (.iconst 0, 1) := gdX9_readStair_0.2.2.2.2.2.2.2.2.2.2.2.2.1
theorem dX9_readStair_23 : decode cX9_readStair 23 = .ok (.ireturn, 1) := gdX9_readStair_0.2.2.2.2.2.2.2.2.2.2.2.2.2.1
theorem dX9_readStair_24 : decode cX9_readStair 24 = .ok (.aload_n 0, 1) := gdX9_readStair_0.2.2.2.2.2.2.2.2.2.2.2.2.2.2.1
theorem dX9_readStair_25 : decode cX9_readStair 25 = .ok (.getfield 9, 3) := gdX9_readStair_0.2.2.2.2.2.2.2.2.2.2.2.2.2.2.2
theorem gdX9_readStair_28 : (decode cX9_readStair 28 = .ok (.iconst 0, 1)) ∧ (decode cX9_readStair 29 = .ok (.aload_n 0, 1)) ∧ (decode cX9_readStair 30 = .ok (.getfield 15, 3)) ∧ (decode cX9_readStair 33 = .ok (.getfield 23, 3)) ∧ (decode cX9_readStair 36 = .ok (.iconst 1, 1)) ∧ (decode cX9_readStair 37 = .ok (.isub, 1)) ∧ (decode cX9_readStair 38 = .ok (.invokevirtual 97, 3)) ∧ (decode cX9_readStair 41 = .ok (.istore_n 2, 1)) ∧ (decode cX9_readStair 42 = .ok (.iload_n 2, 1)) ∧ (decode cX9_readStair 43 = .ok (.ifCond .ge 5, 3)) ∧ (decode cX9_readStair 46 = .ok (.iconst 0, 1)) ∧ (decode cX9_readStair 47 = .ok (.ireturn, 1)) ∧ (decode cX9_readStair 48 = .ok (.iload_n 1, 1)) ∧ (decode cX9_readStair 49 = .ok (.iload_n 2, 1)) ∧ (decode cX9_readStair 50 = .ok (.if_icmp .ne 19, 3)) ∧ (decode cX9_readStair 53 = .ok (.aload_n 0, 1)) := by decide +kernel
theorem dX9_readStair_28 : decode cX9_readStair 28 = .ok (.iconst 0, 1) := gdX9_readStair_28.1
theorem dX9_readStair_29 : decode cX9_readStair 29 = .ok (.aload_n 0, 1) := gdX9_readStair_28.2.1
theorem dX9_readStair_30 : decode cX9_readStair 30 = .ok (.getfield 15, 3) := gdX9_readStair_28.2.2.1
theorem dX9_readStair_33 : decode cX9_readStair 33 = .ok (.getfield 23, 3) := gdX9_readStair_28.2.2.2.1
theorem dX9_readStair_36 : decode cX9_readStair 36 = .ok (.iconst 1, 1) := gdX9_readStair_28.2.2.2.2.1
theorem dX9_readStair_37 : decode cX9_readStair 37 = .ok (.isub, 1) := gdX9_readStair_28.2.2.2.2.2.1
theorem dX9_readStair_38 : decode cX9_readStair 38 = .ok (.invokevirtual 97, 3) := gdX9_readStair_28.2.2.2.2.2.2.1
theorem dX9_readStair_41 : decode cX9_readStair 41 = .ok (.istore_n 2, 1) := gdX9_readStair_28.2.2.2.2.2.2.2.1
theorem dX9_readStair_42 : decode cX9_readStair 42 = .ok (.iload_n 2, 1) := gdX9_readStair_28.2.2.2.2.2.2.2.2.1
theorem dX9_readStair_43 : decode cX9_readStair 43 = .ok (.ifCond .ge 5, 3) := gdX9_readStair_28.2.2.2.2.2.2.2.2.2.1
theorem dX9_readStair_46 : decode cX9_readStair 46 = .ok (.iconst 0, 1) := gdX9_readStair_28.2.2.2.2.2.2.2.2.2.2.1
theorem dX9_readStair_47 : decode cX9_readStair 47 = .ok (.ireturn, 1) := gdX9_readStair_28.2.2.2.2.2.2.2.2.2.2.2.1
theorem dX9_readStair_48 : decode cX9_readStair 48 = .ok (.iload_n 1, 1) := gdX9_readStair_28.2.2.2.2.2.2.2.2.2.2.2.2.1
theorem dX9_readStair_49 : decode cX9_readStair 49 = .ok (.iload_n 2, 1) := gdX9_readStair_28.2.2.2.2.2.2.2.2.2.2.2.2.2.1
theorem dX9_readStair_50 : decode cX9_readStair 50 = .ok (.if_icmp .ne 19, 3) := gdX9_readStair_28.2.2.2.2.2.2.2.2.2.2.2.2.2.2.1
theorem dX9_readStair_53 : decode cX9_readStair 53 = .ok (.aload_n 0, 1) := gdX9_readStair_28.2.2.2.2.2.2.2.2.2.2.2.2.2.2.2
theorem gdX9_readStair_54 : (decode cX9_readStair 54 = .ok (.getfield 9, 3)) ∧ (decode cX9_readStair 57 = .ok (.aload_n 0, 1)) ∧ (decode cX9_readStair 58 = .ok (.getfield 9, 3)) ∧ (decode cX9_readStair 61 = .ok (.getfield 77, 3)) ∧ (decode cX9_readStair 64 = .ok (.iconst 1, 1)) ∧ (decode cX9_readStair 65 = .ok (.invokevirtual 63, 3)) ∧ (decode cX9_readStair 68 = .ok (.ireturn, 1)) ∧ (decode cX9_readStair 69 = .ok (.aload_n 0, 1)) ∧ (decode cX9_readStair 70 = .ok (.getfield 9, 3)) ∧ (decode cX9_readStair 73 = .ok (.iconst 1, 1)) ∧ (decode cX9_readStair 74 = .ok (.bipush 9, 2)) ∧ (decode cX9_readStair 76 = .ok (.invokevirtual 97, 3)) ∧ (decode cX9_readStair 79 = .ok (.istore_n 3, 1)) ∧ (decode cX9_readStair 80 = .ok (.iload_n 3, 1)) ∧ (decode cX9_readStair 81 = .ok (.ifCond .ge 5, 3)) ∧ (decode cX9_readStair 84 = .ok (.iconst 0, 1)) := by decide +kernel
theorem dX9_readStair_54 : decode cX9_readStair 54 = .ok (.getfield 9, 3) := gdX9_readStair_54.1
theorem dX9_readStair_57 : decode cX9_readStair 57 = .ok (.aload_n 0, 1) := gdX9_readStair_54.2.1
theorem dX9_readStair_58 : decode cX9_readStair 58 = .ok (.getfield 9, 3) := gdX9_readStair_54.2.2.1
theorem dX9_readStair_61 : decode cX9_readStair 61 = .ok (.getfield 77, 3) := gdX9_readStair_54.2.2.2.1
theorem dX9_readStair_64 : decode cX9_readStair 64 = .ok (.iconst 1, 1) := gdX9_readStair_54.2.2.2.2.1
theorem dX9_readStair_65 : decode cX9_readStair 65 = .ok (.invokevirtual 63, 3) := gdX9_readStair_54.2.2.2.2.2.1
theorem dX9_readStair_68 : decode cX9_readStair 68 = .ok (.ireturn, 1) := gdX9_readStair_54.2.2.2.2.2.2.1
theorem dX9_readStair_69 : decode cX9_readStair 69 = .ok (.aload_n 0, 1) := gdX9_readStair_54.2.2.2.2.2.2.2.1
theorem dX9_readStair_70 : decode cX9_readStair 70 = .ok (.getfield 9, 3) := gdX9_readStair_54.2.2.2.2.2.2.2.2.1
theorem dX9_readStair_73 : decode cX9_readStair 73 = .ok (.iconst 1, 1) := gdX9_readStair_54.2.2.2.2.2.2.2.2.2.1
theorem dX9_readStair_74 : decode cX9_readStair 74 = .ok (.bipush 9, 2) := gdX9_readStair_54.2.2.2.2.2.2.2.2.2.2.1
theorem dX9_readStair_76 : decode cX9_readStair 76 = .ok (.invokevirtual 97, 3) := gdX9_readStair_54.2.2.2.2.2.2.2.2.2.2.2.1
theorem dX9_readStair_79 : decode cX9_readStair 79 = .ok (.istore_n 3, 1) := gdX9_readStair_54.2.2.2.2.2.2.2.2.2.2.2.2.1
theorem dX9_readStair_80 : decode cX9_readStair 80 = .ok (.iload_n 3, 1) := gdX9_readStair_54.2.2.2.2.2.2.2.2.2.2.2.2.2.1
theorem dX9_readStair_81 : decode cX9_readStair 81 = .ok (.ifCond .ge 5, 3) := gdX9_readStair_54.2.2.2.2.2.2.2.2.2.2.2.2.2.2.1
theorem dX9_readStair_84 : decode cX9_readStair 84 = .ok (.iconst 0, 1) := gdX9_readStair_54.2.2.2.2.2.2.2.2.2.2.2.2.2.2.2
theorem gdX9_readStair_85 : (decode cX9_readStair 85 = .ok (.ireturn, 1)) ∧ (decode cX9_readStair 86 = .ok (.aload_n 0, 1)) ∧ (decode cX9_readStair 87 = .ok (.invokevirtual 89, 3)) ∧ (decode cX9_readStair 90 = .ok (.lstore 4, 2)) ∧ (decode cX9_readStair 92 = .ok (.lload 4, 2)) ∧ (decode cX9_readStair 94 = .ok (.lconst 0, 1)) ∧ (decode cX9_readStair 95 = .ok (.lcmp, 1)) ∧ (decode cX9_readStair 96 = .ok (.ifCond .ge 5, 3)) ∧ (decode cX9_readStair 99 = .ok (.iconst 0, 1)) ∧ (decode cX9_readStair 100 = .ok (.ireturn, 1)) ∧ (decode cX9_readStair 101 = .ok (.aload_n 0, 1)) ∧ (decode cX9_readStair 102 = .ok (.getfield 15, 3)) ∧ (decode cX9_readStair 105 = .ok (.iload_n 1, 1)) ∧ (decode cX9_readStair 106 = .ok (.iload_n 2, 1)) ∧ (decode cX9_readStair 107 = .ok (.iload_n 3, 1)) ∧ (decode cX9_readStair 108 = .ok (.lload 4, 2)) := by decide +kernel
theorem dX9_readStair_85 : decode cX9_readStair 85 = .ok (.ireturn, 1) := gdX9_readStair_85.1
theorem dX9_readStair_86 : decode cX9_readStair 86 = .ok (.aload_n 0, 1) := gdX9_readStair_85.2.1
theorem dX9_readStair_87 : decode cX9_readStair 87 = .ok (.invokevirtual 89, 3) := gdX9_readStair_85.2.2.1
theorem dX9_readStair_90 : decode cX9_readStair 90 = .ok (.lstore 4, 2) := gdX9_readStair_85.2.2.2.1
theorem dX9_readStair_92 : decode cX9_readStair 92 = .ok (.lload 4, 2) := gdX9_readStair_85.2.2.2.2.1
theorem dX9_readStair_94 : decode cX9_readStair 94 = .ok (.lconst 0, 1) := gdX9_readStair_85.2.2.2.2.2.1
theorem dX9_readStair_95 : decode cX9_readStair 95 = .ok (.lcmp, 1) := gdX9_readStair_85.2.2.2.2.2.2.1
theorem dX9_readStair_96 : decode cX9_readStair 96 = .ok (.ifCond .ge 5, 3) := gdX9_readStair_85.2.2.2.2.2.2.2.1
theorem dX9_readStair_99 : decode cX9_readStair 99 = .ok (.iconst 0, 1) := gdX9_readStair_85.2.2.2.2.2.2.2.2.1
theorem dX9_readStair_100 : decode cX9_readStair 100 = .ok (.ireturn, 1) := gdX9_readStair_85.2.2.2.2.2.2.2.2.2.1
theorem dX9_readStair_101 : decode cX9_readStair 101 = .ok (.aload_n 0, 1) := gdX9_readStair_85.2.2.2.2.2.2.2.2.2.2.1
theorem dX9_readStair_102 : decode cX9_readStair 102 = .ok (.getfield 15, 3) := gdX9_readStair_85.2.2.2.2.2.2.2.2.2.2.2.1
theorem dX9_readStair_105 : decode cX9_readStair 105 = .ok (.iload_n 1, 1) := gdX9_readStair_85.2.2.2.2.2.2.2.2.2.2.2.2.1
theorem dX9_readStair_106 : decode cX9_readStair 106 = .ok (.iload_n 2, 1) := gdX9_readStair_85.2.2.2.2.2.2.2.2.2.2.2.2.2.1
theorem dX9_readStair_107 : decode cX9_readStair 107 = .ok (.iload_n 3, 1) := gdX9_readStair_85.2.2.2.2.2.2.2.2.2.2.2.2.2.2.1
theorem dX9_readStair_108 : decode cX9_readStair 108 = .ok (.lload 4, 2) := gdX9_readStair_85.2.2.2.2.2.2.2.2.2.2.2.2.2.2.2
theorem gdX9_readStair_110 : (decode cX9_readStair 110 = .ok (.invokevirtual 101, 3)) ∧ (decode cX9_readStair 113 = .ok (.iconst 1, 1)) ∧ (decode cX9_readStair 114 = .ok (.ireturn, 1)) := by decide +kernel
theorem dX9_readStair_110 : decode cX9_readStair 110 = .ok (.invokevirtual 101, 3) := gdX9_readStair_110.1
theorem dX9_readStair_113 : decode cX9_readStair 113 = .ok (.iconst 1, 1) := gdX9_readStair_110.2.1
theorem dX9_readStair_114 : decode cX9_readStair 114 = .ok (.ireturn, 1) := gdX9_readStair_110.2.2
theorem gdX9_readThing_0 : (decode cX9_readThing 0 = .ok (.aload_n 0, 1)) ∧ (decode cX9_readThing 1 = .ok (.getfield 9, 3)) ∧ (decode cX9_readThing 4 = .ok (.iconst 0, 1)) ∧ (decode cX9_readThing 5 = .ok (.aload_n 0, 1)) ∧ (decode cX9_readThing 6 = .ok (.getfield 15, 3)) ∧ (decode cX9_readThing 9 = .ok (.getfield 23, 3)) ∧ (decode cX9_readThing 12 = .ok (.iconst 1, 1)) ∧ (decode cX9_readThing 13 = .ok (.isub, 1)) ∧ (decode cX9_readThing 14 = .ok (.invokevirtual 97, 3)) ∧ (decode cX9_readThing 17 = .ok (.istore_n 1, 1)) ∧ (decode cX9_readThing 18 = .ok (.iload_n 1, 1)) ∧ (decode cX9_readThing 19 = .ok (.ifCond .ge 5, 3)) ∧ (decode cX9_readThing 22 = .ok (.iconst 0, 1)) ∧ (decode cX9_readThing 23 = .ok (.ireturn, 1)) ∧ (decode cX9_readThing 24 = .ok (.aload_n 0, 1)) ∧ (decode cX9_readThing 25 = .ok (.getfield 19, 3)) := by decide +kernel
theorem dX9_readThing_0 : decode cX9_readThing 0 = .ok (.aload_n 0, 1) := gdX9_readThing_0.1
theorem dX9_readThing_1 : decode cX9_readThing 1 = .ok (.getfield 9, 3) := gdX9_readThing_0.2.1
theorem dX9_readThing_4 : decode cX9_readThing 4 = .ok (.iconst 0, 1) := gdX9_readThing_0.2.2.1
theorem dX9_readThing_5 : decode cX9_readThing 5 = .ok (.aload_n 0, 1) := gdX9_readThing_0.2.2.2.1
theorem dX9_readThing_6 : decode cX9_readThing 6 = .ok (.getfield 15, 3) := gdX9_readThing_0.2.2.2.2.1
theorem dX9_readThing_9 : decode cX9_readThing 9 = .ok (.getfield 23, 3) := gdX9_readThing_0.2.2.2.2.2.1
theorem dX9_readThing_12 : decode cX9_readThing 12 = .ok (.iconst 1, 1) := gdX9_readThing_0.2.2.2.2.2.2.1
theorem dX9_readThing_13 : decode cX9_readThing 13 = .ok (.isub, 1) := gdX9_readThing_0.2.2.2.2.2.2.2.1
theorem dX9_readThing_14 : decode cX9_readThing 14 = .ok (.invokevirtual 97, 3) := gdX9_readThing_0.2.2.2.2.2.2.2.2.1
theorem dX9_readThing_17 : decode cX9_readThing 17 = .ok (.istore_n 1, 1) := gdX9_readThing_0.2.2.2.2.2.2.2.2.2.1
theorem dX9_readThing_18 : decode cX9_readThing 18 = .ok (.iload_n 1, 1) := gdX9_readThing_0.2.2.2.2.2.2.2.2.2.2.1
theorem dX9_readThing_19 : decode cX9_readThing 19 = .ok (.ifCond .ge 5, 3) := gdX9_readThing_0.2.2.2.2.2.2.2.2.2.2.2.1
theorem dX9_readThing_22 : decode cX9_readThing 22 = .ok (.iconst 0, 1) := gdX9_readThing_0.2.2.2.2.2.2.2.2.2.2.2.2.1
theorem dX9_readThing_23 : decode cX9_readThing 23 = .ok (.ireturn, 1) := gdX9_readThing_0.2.2.2.2.2.2.2.2.2.2.2.2.2.1
theorem dX9_readThing_24 : decode cX9_readThing 24 = .ok (.aload_n 0, 1) := gdX9_readThing_0.2.2.2.2.2.2.2.2.2.2.2.2.2.2.1
theorem dX9_readThing_25 : decode cX9_readThing 25 = .ok (.getfield 19, 3) := gdX9_readThing_0.2.2.2.2.2.2.2.2.2.2.2.2.2.2.2
theorem gdX9_readThing_28 : (decode cX9_readThing 28 = .ok (.iload_n 1, 1)) ∧ (decode cX9_readThing 29 = .ok (.invokevirtual 105, 3)) ∧ (decode cX9_readThing 32 = .ok (.iconst 1, 1)) ∧ (decode cX9_readThing 33 = .ok (.ireturn, 1)) := by decide +kernel
theorem dX9_readThing_28 : decode cX9_readThing 28 = .ok (.iload_n 1, 1) := gdX9_readThing_28.1
theorem dX9_readThing_29 : decode cX9_readThing 29 = .ok (.invokevirtual 105, 3) := gdX9_readThing_28.2.1
theorem dX9_readThing_32 : decode cX9_readThing 32 = .ok (.iconst 1, 1) := gdX9_readThing_28.2.2.1
theorem dX9_readThing_33 : decode cX9_readThing 33 = .ok (.ireturn, 1) := gdX9_readThing_28.2.2.2
theorem gdX9_readPace_0 : (decode cX9_readPace 0 = .ok (.aload_n 0, 1)) ∧ (decode cX9_readPace 1 = .ok (.getfield 9, 3)) ∧ (decode cX9_readPace 4 = .ok (.iconst 1, 1)) ∧ (decode cX9_readPace 5 = .ok (.bipush 20, 2)) ∧ (decode cX9_readPace 7 = .ok (.invokevirtual 97, 3)) ∧ (decode cX9_readPace 10 = .ok (.istore_n 1, 1)) ∧ (decode cX9_readPace 11 = .ok (.iload_n 1, 1)) ∧ (decode cX9_readPace 12 = .ok (.ifCond .ge 7, 3)) ∧ (decode cX9_readPace 15 = .ok (.ldc2_w 109, 3)) ∧ (decode cX9_readPace 18 = .ok (.lreturn, 1)) ∧ (decode cX9_readPace 19 = .ok (.aload_n 0, 1)) ∧ (decode cX9_readPace 20 = .ok (.getfield 9, 3)) ∧ (decode cX9_readPace 23 = .ok (.iconst 1, 1)) ∧ (decode cX9_readPace 24 = .ok (.bipush 20, 2)) ∧ (decode cX9_readPace 26 = .ok (.invokevirtual 97, 3)) ∧ (decode cX9_readPace 29 = .ok (.istore_n 2, 1)) := by decide +kernel
theorem dX9_readPace_0 : decode cX9_readPace 0 = .ok (.aload_n 0, 1) := gdX9_readPace_0.1
theorem dX9_readPace_1 : decode cX9_readPace 1 = .ok (.getfield 9, 3) := gdX9_readPace_0.2.1
theorem dX9_readPace_4 : decode cX9_readPace 4 = .ok (.iconst 1, 1) := gdX9_readPace_0.2.2.1
theorem dX9_readPace_5 : decode cX9_readPace 5 = .ok (.bipush 20, 2) := gdX9_readPace_0.2.2.2.1
theorem dX9_readPace_7 : decode cX9_readPace 7 = .ok (.invokevirtual 97, 3) := gdX9_readPace_0.2.2.2.2.1
theorem dX9_readPace_10 : decode cX9_readPace 10 = .ok (.istore_n 1, 1) := gdX9_readPace_0.2.2.2.2.2.1
theorem dX9_readPace_11 : decode cX9_readPace 11 = .ok (.iload_n 1, 1) := gdX9_readPace_0.2.2.2.2.2.2.1
theorem dX9_readPace_12 : decode cX9_readPace 12 = .ok (.ifCond .ge 7, 3) := gdX9_readPace_0.2.2.2.2.2.2.2.1
theorem dX9_readPace_15 : decode cX9_readPace 15 = .ok (.ldc2_w 109, 3) := gdX9_readPace_0.2.2.2.2.2.2.2.2.1
theorem dX9_readPace_18 : decode cX9_readPace 18 = .ok (.lreturn, 1) := gdX9_readPace_0.2.2.2.2.2.2.2.2.2.1
theorem dX9_readPace_19 : decode cX9_readPace 19 = .ok (.aload_n 0, 1) := gdX9_readPace_0.2.2.2.2.2.2.2.2.2.2.1
theorem dX9_readPace_20 : decode cX9_readPace 20 = .ok (.getfield 9, 3) := gdX9_readPace_0.2.2.2.2.2.2.2.2.2.2.2.1
theorem dX9_readPace_23 : decode cX9_readPace 23 = .ok (.iconst 1, 1) := gdX9_readPace_0.2.2.2.2.2.2.2.2.2.2.2.2.1
theorem dX9_readPace_24 : decode cX9_readPace 24 = .ok (.bipush 20, 2) := gdX9_readPace_0.2.2.2.2.2.2.2.2.2.2.2.2.2.1
theorem dX9_readPace_26 : decode cX9_readPace 26 = .ok (.invokevirtual 97, 3) := gdX9_readPace_0.2.2.2.2.2.2.2.2.2.2.2.2.2.2.1
theorem dX9_readPace_29 : decode cX9_readPace 29 = .ok (.istore_n 2, 1) := gdX9_readPace_0.2.2.2.2.2.2.2.2.2.2.2.2.2.2.2
theorem gdX9_readPace_30 : (decode cX9_readPace 30 = .ok (.iload_n 2, 1)) ∧ (decode cX9_readPace 31 = .ok (.ifCond .gt 7, 3)) ∧ (decode cX9_readPace 34 = .ok (.ldc2_w 109, 3)) ∧ (decode cX9_readPace 37 = .ok (.lreturn, 1)) ∧ (decode cX9_readPace 38 = .ok (.iload_n 1, 1)) ∧ (decode cX9_readPace 39 = .ok (.i2l, 1)) ∧ (decode cX9_readPace 40 = .ok (.ldc2_w 111, 3)) ∧ (decode cX9_readPace 43 = .ok (.iload_n 2, 1)) ∧ (decode cX9_readPace 44 = .ok (.i2l, 1)) ∧ (decode cX9_readPace 45 = .ok (.ldiv, 1)) ∧ (decode cX9_readPace 46 = .ok (.lmul, 1)) ∧ (decode cX9_readPace 47 = .ok (.lreturn, 1)) := by decide +kernel
theorem dX9_readPace_30 : decode cX9_readPace 30 = .ok (.iload_n 2, 1) := gdX9_readPace_30.1
theorem dX9_readPace_31 : decode cX9_readPace 31 = .ok (.ifCond .gt 7, 3) := gdX9_readPace_30.2.1
theorem dX9_readPace_34 : decode cX9_readPace 34 = .ok (.ldc2_w 109, 3) := gdX9_readPace_30.2.2.1
theorem dX9_readPace_37 : decode cX9_readPace 37 = .ok (.lreturn, 1) := gdX9_readPace_30.2.2.2.1
theorem dX9_readPace_38 : decode cX9_readPace 38 = .ok (.iload_n 1, 1) := gdX9_readPace_30.2.2.2.2.1
theorem dX9_readPace_39 : decode cX9_readPace 39 = .ok (.i2l, 1) := gdX9_readPace_30.2.2.2.2.2.1
theorem dX9_readPace_40 : decode cX9_readPace 40 = .ok (.ldc2_w 111, 3) := gdX9_readPace_30.2.2.2.2.2.2.1
theorem dX9_readPace_43 : decode cX9_readPace 43 = .ok (.iload_n 2, 1) := gdX9_readPace_30.2.2.2.2.2.2.2.1
theorem dX9_readPace_44 : decode cX9_readPace 44 = .ok (.i2l, 1) := gdX9_readPace_30.2.2.2.2.2.2.2.2.1
theorem dX9_readPace_45 : decode cX9_readPace 45 = .ok (.ldiv, 1) := gdX9_readPace_30.2.2.2.2.2.2.2.2.2.1
theorem dX9_readPace_46 : decode cX9_readPace 46 = .ok (.lmul, 1) := gdX9_readPace_30.2.2.2.2.2.2.2.2.2.2.1
theorem dX9_readPace_47 : decode cX9_readPace 47 = .ok (.lreturn, 1) := gdX9_readPace_30.2.2.2.2.2.2.2.2.2.2.2
theorem gdX10_init_0 : (decode cX10_init 0 = .ok (.aload_n 0, 1)) ∧ (decode cX10_init 1 = .ok (.invokespecial 3, 3)) ∧ (decode cX10_init 4 = .ok (.aload_n 0, 1)) ∧ (decode cX10_init 5 = .ok (.new 9, 3)) ∧ (decode cX10_init 8 = .ok (.dup, 1)) ∧ (decode cX10_init 9 = .ok (.invokespecial 11, 3)) ∧ (decode cX10_init 12 = .ok (.putfield 12, 3)) ∧ (decode cX10_init 15 = .ok (.aload_n 0, 1)) ∧ (decode cX10_init 16 = .ok (.new 16, 3)) ∧ (decode cX10_init 19 = .ok (.dup, 1)) ∧ (decode cX10_init 20 = .ok (.invokespecial 18, 3)) ∧ (decode cX10_init 23 = .ok (.putfield 19, 3)) ∧ (decode cX10_init 26 = .ok (.aload_n 0, 1)) ∧ (decode cX10_init 27 = .ok (.iconst 4, 1)) ∧ (decode cX10_init 28 = .ok (.anewarray 16, 3)) ∧ (decode cX10_init 31 = .ok (.putfield 23, 3)) := by decide +kernel
theorem dX10_init_0 : decode cX10_init 0 = .ok (.aload_n 0, 1) := gdX10_init_0.1
theorem dX10_init_1 : decode cX10_init 1 = .ok (.invokespecial 3, 3) := gdX10_init_0.2.1
theorem dX10_init_4 : decode cX10_init 4 = .ok (.aload_n 0, 1) := gdX10_init_0.2.2.1
theorem dX10_init_5 : decode cX10_init 5 = .ok (.new 9, 3) := gdX10_init_0.2.2.2.1
theorem dX10_init_8 : decode cX10_init 8 = .ok (.dup, 1) := gdX10_init_0.2.2.2.2.1
theorem dX10_init_9 : decode cX10_init 9 = .ok (.invokespecial 11, 3) := gdX10_init_0.2.2.2.2.2.1
theorem dX10_init_12 : decode cX10_init 12 = .ok (.putfield 12, 3) := gdX10_init_0.2.2.2.2.2.2.1
theorem dX10_init_15 : decode cX10_init 15 = .ok (.aload_n 0, 1) := gdX10_init_0.2.2.2.2.2.2.2.1
theorem dX10_init_16 : decode cX10_init 16 = .ok (.new 16, 3) := gdX10_init_0.2.2.2.2.2.2.2.2.1
theorem dX10_init_19 : decode cX10_init 19 = .ok (.dup, 1) := gdX10_init_0.2.2.2.2.2.2.2.2.2.1
theorem dX10_init_20 : decode cX10_init 20 = .ok (.invokespecial 18, 3) := gdX10_init_0.2.2.2.2.2.2.2.2.2.2.1
theorem dX10_init_23 : decode cX10_init 23 = .ok (.putfield 19, 3) := gdX10_init_0.2.2.2.2.2.2.2.2.2.2.2.1
theorem dX10_init_26 : decode cX10_init 26 = .ok (.aload_n 0, 1) := gdX10_init_0.2.2.2.2.2.2.2.2.2.2.2.2.1
theorem dX10_init_27 : decode cX10_init 27 = .ok (.iconst 4, 1) := gdX10_init_0.2.2.2.2.2.2.2.2.2.2.2.2.2.1
theorem dX10_init_28 : decode cX10_init 28 = .ok (.anewarray 16, 3) := gdX10_init_0.2.2.2.2.2.2.2.2.2.2.2.2.2.2.1
theorem dX10_init_31 : decode cX10_init 31 = .ok (.putfield 23, 3) := gdX10_init_0.2.2.2.2.2.2.2.2.2.2.2.2.2.2.2
theorem gdX10_init_34 : (decode cX10_init 34 = .ok (.aload_n 0, 1)) ∧ (decode cX10_init 35 = .ok (.bipush 6, 2)) ∧ (decode cX10_init 37 = .ok (.anewarray 27, 3)) ∧ (decode cX10_init 40 = .ok (.putfield 29, 3)) ∧ (decode cX10_init 43 = .ok (.aload_n 0, 1)) ∧ (decode cX10_init 44 = .ok (.new 33, 3)) ∧ (decode cX10_init 47 = .ok (.dup, 1)) ∧ (decode cX10_init 48 = .ok (.invokespecial 35, 3)) ∧ (decode cX10_init 51 = .ok (.putfield 36, 3)) ∧ (decode cX10_init 54 = .ok (.aload_n 0, 1)) ∧ (decode cX10_init 55 = .ok (.new 40, 3)) ∧ (decode cX10_init 58 = .ok (.dup, 1)) ∧ (decode cX10_init 59 = .ok (.invokespecial 42, 3)) ∧ (decode cX10_init 62 = .ok (.putfield 43, 3)) ∧ (decode cX10_init 65 = .ok (.aload_n 0, 1)) ∧ (decode cX10_init 66 = .ok (.new 47, 3)) := by decide +kernel
theorem dX10_init_34 : decode cX10_init 34 = .ok (.aload_n 0, 1) := gdX10_init_34.1
theorem dX10_init_35 : decode cX10_init 35 = .ok (.bipush 6, 2) := gdX10_init_34.2.1
theorem dX10_init_37 : decode cX10_init 37 = .ok (.anewarray 27, 3) := gdX10_init_34.2.2.1
theorem dX10_init_40 : decode cX10_init 40 = .ok (.putfield 29, 3) := gdX10_init_34.2.2.2.1
theorem dX10_init_43 : decode cX10_init 43 = .ok (.aload_n 0, 1) := gdX10_init_34.2.2.2.2.1
theorem dX10_init_44 : decode cX10_init 44 = .ok (.new 33, 3) := gdX10_init_34.2.2.2.2.2.1
theorem dX10_init_47 : decode cX10_init 47 = .ok (.dup, 1) := gdX10_init_34.2.2.2.2.2.2.1
theorem dX10_init_48 : decode cX10_init 48 = .ok (.invokespecial 35, 3) := gdX10_init_34.2.2.2.2.2.2.2.1
theorem dX10_init_51 : decode cX10_init 51 = .ok (.putfield 36, 3) := gdX10_init_34.2.2.2.2.2.2.2.2.1
theorem dX10_init_54 : decode cX10_init 54 = .ok (.aload_n 0, 1) := gdX10_init_34.2.2.2.2.2.2.2.2.2.1
theorem dX10_init_55 : decode cX10_init 55 = .ok (.new 40, 3) := gdX10_init_34.2.2.2.2.2.2.2.2.2.2.1
theorem dX10_init_58 : decode cX10_init 58 = .ok (.dup, 1) := gdX10_init_34.2.2.2.2.2.2.2.2.2.2.2.1
theorem dX10_init_59 : decode cX10_init 59 = .ok (.invokespecial 42, 3) := gdX10_init_34.2.2.2.2.2.2.2.2.2.2.2.2.1
theorem dX10_init_62 : decode cX10_init 62 = .ok (.putfield 43, 3) := gdX10_init_34.2.2.2.2.2.2.2.2.2.2.2.2.2.1
theorem dX10_init_65 : decode cX10_init 65 = .ok (.aload_n 0, 1) := gdX10_init_34.2.2.2.2.2.2.2.2.2.2.2.2.2.2.1
theorem dX10_init_66 : decode cX10_init 66 = .ok (.new 47, 3) := gdX10_init_34.2.2.2.2.2.2.2.2.2.2.2.2.2.2.2
theorem gdX10_init_69 : (decode cX10_init 69 = .ok (.dup, 1)) ∧ (decode cX10_init 70 = .ok (.aload_n 0, 1)) ∧ (decode cX10_init 71 = .ok (.getfield 12, 3)) ∧ (decode cX10_init 74 = .ok (.aload_n 0, 1)) ∧ (decode cX10_init 75 = .ok (.getfield 36, 3)) ∧ (decode cX10_init 78 = .ok (.aload_n 0, 1)) ∧ (decode cX10_init 79 = .ok (.getfield 43, 3)) ∧ (decode cX10_init 82 = .ok (.invokespecial 49, 3)) ∧ (decode cX10_init 85 = .ok (.putfield 52, 3)) ∧ (decode cX10_init 88 = .ok (.aload_n 0, 1)) ∧ (decode cX10_init 89 = .ok (.new 56, 3)) ∧ (decode cX10_init 92 = .ok (.dup, 1)) ∧ (decode cX10_init 93 = .ok (.aload_n 0, 1)) ∧ (decode cX10_init 94 = .ok (.getfield 12, 3)) ∧ (decode cX10_init 97 = .ok (.invokespecial 58, 3)) ∧ (decode cX10_init 100 = .ok (.putfield 61, 3)) := by decide +kernel
theorem dX10_init_69 : decode cX10_init 69 = .ok (.dup, 1) := gdX10_init_69.1
theorem dX10_init_70 : decode cX10_init 70 = .ok (.aload_n 0, 1) := gdX10_init_69.2.1
theorem dX10_init_71 : decode cX10_init 71 = .ok (.getfield 12, 3) := gdX10_init_69.2.2.1
theorem dX10_init_74 : decode cX10_init 74 = .ok (.aload_n 0, 1) := gdX10_init_69.2.2.2.1
theorem dX10_init_75 : decode cX10_init 75 = .ok (.getfield 36, 3) := gdX10_init_69.2.2.2.2.1
theorem dX10_init_78 : decode cX10_init 78 = .ok (.aload_n 0, 1) := gdX10_init_69.2.2.2.2.2.1
theorem dX10_init_79 : decode cX10_init 79 = .ok (.getfield 43, 3) := gdX10_init_69.2.2.2.2.2.2.1
theorem dX10_init_82 : decode cX10_init 82 = .ok (.invokespecial 49, 3) := gdX10_init_69.2.2.2.2.2.2.2.1
theorem dX10_init_85 : decode cX10_init 85 = .ok (.putfield 52, 3) := gdX10_init_69.2.2.2.2.2.2.2.2.1
theorem dX10_init_88 : decode cX10_init 88 = .ok (.aload_n 0, 1) := gdX10_init_69.2.2.2.2.2.2.2.2.2.1
theorem dX10_init_89 : decode cX10_init 89 = .ok (.new 56, 3) := gdX10_init_69.2.2.2.2.2.2.2.2.2.2.1
theorem dX10_init_92 : decode cX10_init 92 = .ok (.dup, 1) := gdX10_init_69.2.2.2.2.2.2.2.2.2.2.2.1
theorem dX10_init_93 : decode cX10_init 93 = .ok (.aload_n 0, 1) := gdX10_init_69.2.2.2.2.2.2.2.2.2.2.2.2.1
theorem dX10_init_94 : decode cX10_init 94 = .ok (.getfield 12, 3) := gdX10_init_69.2.2.2.2.2.2.2.2.2.2.2.2.2.1
theorem dX10_init_97 : decode cX10_init 97 = .ok (.invokespecial 58, 3) := gdX10_init_69.2.2.2.2.2.2.2.2.2.2.2.2.2.2.1
theorem dX10_init_100 : decode cX10_init 100 = .ok (.putfield 61, 3) := gdX10_init_69.2.2.2.2.2.2.2.2.2.2.2.2.2.2.2
theorem gdX10_init_103 : (decode cX10_init 103 = .ok (.aload_n 0, 1)) ∧ (decode cX10_init 104 = .ok (.new 65, 3)) ∧ (decode cX10_init 107 = .ok (.dup, 1)) ∧ (decode cX10_init 108 = .ok (.invokespecial 67, 3)) ∧ (decode cX10_init 111 = .ok (.putfield 68, 3)) ∧ (decode cX10_init 114 = .ok (.aload_n 0, 1)) ∧ (decode cX10_init 115 = .ok (.new 72, 3)) ∧ (decode cX10_init 118 = .ok (.dup, 1)) ∧ (decode cX10_init 119 = .ok (.invokespecial 74, 3)) ∧ (decode cX10_init 122 = .ok (.putfield 75, 3)) ∧ (decode cX10_init 125 = .ok (.aload_n 0, 1)) ∧ (decode cX10_init 126 = .ok (.iconst 0, 1)) ∧ (decode cX10_init 127 = .ok (.putfield 79, 3)) ∧ (decode cX10_init 130 = .ok (.iconst 0, 1)) ∧ (decode cX10_init 131 = .ok (.istore_n 1, 1)) ∧ (decode cX10_init 132 = .ok (.iload_n 1, 1)) := by decide +kernel
theorem dX10_init_103 : decode cX10_init 103 = .ok (.aload_n 0, 1) := gdX10_init_103.1
theorem dX10_init_104 : decode cX10_init 104 = .ok (.new 65, 3) := gdX10_init_103.2.1
theorem dX10_init_107 : decode cX10_init 107 = .ok (.dup, 1) := gdX10_init_103.2.2.1
theorem dX10_init_108 : decode cX10_init 108 = .ok (.invokespecial 67, 3) := gdX10_init_103.2.2.2.1
theorem dX10_init_111 : decode cX10_init 111 = .ok (.putfield 68, 3) := gdX10_init_103.2.2.2.2.1
theorem dX10_init_114 : decode cX10_init 114 = .ok (.aload_n 0, 1) := gdX10_init_103.2.2.2.2.2.1
theorem dX10_init_115 : decode cX10_init 115 = .ok (.new 72, 3) := gdX10_init_103.2.2.2.2.2.2.1
theorem dX10_init_118 : decode cX10_init 118 = .ok (.dup, 1) := gdX10_init_103.2.2.2.2.2.2.2.1
theorem dX10_init_119 : decode cX10_init 119 = .ok (.invokespecial 74, 3) := gdX10_init_103.2.2.2.2.2.2.2.2.1
theorem dX10_init_122 : decode cX10_init 122 = .ok (.putfield 75, 3) := gdX10_init_103.2.2.2.2.2.2.2.2.2.1
theorem dX10_init_125 : decode cX10_init 125 = .ok (.aload_n 0, 1) := gdX10_init_103.2.2.2.2.2.2.2.2.2.2.1
theorem dX10_init_126 : decode cX10_init 126 = .ok (.iconst 0, 1) := gdX10_init_103.2.2.2.2.2.2.2.2.2.2.2.1
theorem dX10_init_127 : decode cX10_init 127 = .ok (.putfield 79, 3) := gdX10_init_103.2.2.2.2.2.2.2.2.2.2.2.2.1
theorem dX10_init_130 : decode cX10_init 130 = .ok (.iconst 0, 1) := gdX10_init_103.2.2.2.2.2.2.2.2.2.2.2.2.2.1
theorem dX10_init_131 : decode cX10_init 131 = .ok (.istore_n 1, 1) := gdX10_init_103.2.2.2.2.2.2.2.2.2.2.2.2.2.2.1
theorem dX10_init_132 : decode cX10_init 132 = .ok (.iload_n 1, 1) := gdX10_init_103.2.2.2.2.2.2.2.2.2.2.2.2.2.2.2
theorem gdX10_init_133 : (decode cX10_init 133 = .ok (.iconst 4, 1)) ∧ (decode cX10_init 134 = .ok (.if_icmp .ge 22, 3)) ∧ (decode cX10_init 137 = .ok (.aload_n 0, 1)) ∧ (decode cX10_init 138 = .ok (.getfield 23, 3)) ∧ (decode cX10_init 141 = .ok (.iload_n 1, 1)) ∧ (decode cX10_init 142 = .ok (.new 16, 3)) ∧ (decode cX10_init 145 = .ok (.dup, 1)) ∧ (decode cX10_init 146 = .ok (.invokespecial 18, 3)) ∧ (decode cX10_init 149 = .ok (.aastore, 1)) ∧ (decode cX10_init 150 = .ok (.iinc 1 1, 3)) ∧ (decode cX10_init 153 = .ok (.goto (-21), 3)) ∧ (decode cX10_init 156 = .ok (.iconst 0, 1)) ∧ (decode cX10_init 157 = .ok (.istore_n 1, 1)) ∧ (decode cX10_init 158 = .ok (.iload_n 1, 1)) ∧ (decode cX10_init 159 = .ok (.bipush 6, 2)) ∧ (decode cX10_init 161 = .ok (.if_icmp .ge 22, 3)) := by decide +kernel
theorem dX10_init_133 : decode cX10_init 133 = .ok (.iconst 4, 1) := gdX10_init_133.1
theorem dX10_init_134 : decode cX10_init 134 = .ok (.if_icmp .ge 22, 3) := gdX10_init_133.2.1
theorem dX10_init_137 : decode cX10_init 137 = .ok (.aload_n 0, 1) := gdX10_init_133.2.2.1
theorem dX10_init_138 : decode cX10_init 138 = .ok (.getfield 23, 3) := gdX10_init_133.2.2.2.1
theorem dX10_init_141 : decode cX10_init 141 = .ok (.iload_n 1, 1) := gdX10_init_133.2.2.2.2.1
theorem dX10_init_142 : decode cX10_init 142 = .ok (.new 16, 3) := gdX10_init_133.2.2.2.2.2.1
theorem dX10_init_145 : decode cX10_init 145 = .ok (.dup, 1) := gdX10_init_133.2.2.2.2.2.2.1
theorem dX10_init_146 : decode cX10_init 146 = .ok (.invokespecial 18, 3) := gdX10_init_133.2.2.2.2.2.2.2.1
theorem dX10_init_149 : decode cX10_init 149 = .ok (.aastore, 1) := gdX10_init_133.2.2.2.2.2.2.2.2.1
theorem dX10_init_150 : decode cX10_init 150 = .ok (.iinc 1 1, 3) := gdX10_init_133.2.2.2.2.2.2.2.2.2.1
theorem dX10_init_153 : decode cX10_init 153 = .ok (.goto (-21), 3) := gdX10_init_133.2.2.2.2.2.2.2.2.2.2.1
theorem dX10_init_156 : decode cX10_init 156 = .ok (.iconst 0, 1) := gdX10_init_133.2.2.2.2.2.2.2.2.2.2.2.1
theorem dX10_init_157 : decode cX10_init 157 = .ok (.istore_n 1, 1) := gdX10_init_133.2.2.2.2.2.2.2.2.2.2.2.2.1
theorem dX10_init_158 : decode cX10_init 158 = .ok (.iload_n 1, 1) := gdX10_init_133.2.2.2.2.2.2.2.2.2.2.2.2.2.1
theorem dX10_init_159 : decode cX10_init 159 = .ok (.bipush 6, 2) := gdX10_init_133.2.2.2.2.2.2.2.2.2.2.2.2.2.2.1
theorem dX10_init_161 : decode cX10_init 161 = .ok (.if_icmp .ge 22, 3) := gdX10_init_133.2.2.2.2.2.2.2.2.2.2.2.2.2.2.2
theorem gdX10_init_164 : (decode cX10_init 164 = .ok (.aload_n 0, 1)) ∧ (decode cX10_init 165 = .ok (.getfield 29, 3)) ∧ (decode cX10_init 168 = .ok (.iload_n 1, 1)) ∧ (decode cX10_init 169 = .ok (.new 27, 3)) ∧ (decode cX10_init 172 = .ok (.dup, 1)) ∧ (decode cX10_init 173 = .ok (.invokespecial 83, 3)) ∧ (decode cX10_init 176 = .ok (.aastore, 1)) ∧ (decode cX10_init 177 = .ok (.iinc 1 1, 3)) ∧ (decode cX10_init 180 = .ok (.goto (-22), 3)) ∧ (decode cX10_init 183 = .ok (.return_, 1)) := by decide +kernel
theorem dX10_init_164 : decode cX10_init 164 = .ok (.aload_n 0, 1) := gdX10_init_164.1
theorem dX10_init_165 : decode cX10_init 165 = .ok (.getfield 29, 3) := gdX10_init_164.2.1
theorem dX10_init_168 : decode cX10_init 168 = .ok (.iload_n 1, 1) := gdX10_init_164.2.2.1
theorem dX10_init_169 : decode cX10_init 169 = .ok (.new 27, 3) := gdX10_init_164.2.2.2.1
theorem dX10_init_172 : decode cX10_init 172 = .ok (.dup, 1) := gdX10_init_164.2.2.2.2.1
theorem dX10_init_173 : decode cX10_init 173 = .ok (.invokespecial 83, 3) := gdX10_init_164.2.2.2.2.2.1
theorem dX10_init_176 : decode cX10_init 176 = .ok (.aastore, 1) := gdX10_init_164.2.2.2.2.2.2.1
theorem dX10_init_177 : decode cX10_init 177 = .ok (.iinc 1 1, 3) := gdX10_init_164.2.2.2.2.2.2.2.1
theorem dX10_init_180 : decode cX10_init 180 = .ok (.goto (-22), 3) := gdX10_init_164.2.2.2.2.2.2.2.2.1
theorem dX10_init_183 : decode cX10_init 183 = .ok (.return_, 1) := gdX10_init_164.2.2.2.2.2.2.2.2.2
theorem gdX10_feed_0 : (decode cX10_feed 0 = .ok (.aload_n 0, 1)) ∧ (decode cX10_feed 1 = .ok (.getfield 12, 3)) ∧ (decode cX10_feed 4 = .ok (.getfield 84, 3)) ∧ (decode cX10_feed 7 = .ok (.bipush 20, 2)) ∧ (decode cX10_feed 9 = .ok (.iadd, 1)) ∧ (decode cX10_feed 10 = .ok (.sipush 400, 3)) ∧ (decode cX10_feed 13 = .ok (.if_icmp .le 5, 3)) ∧ (decode cX10_feed 16 = .ok (.iconst (-1), 1)) ∧ (decode cX10_feed 17 = .ok (.ireturn, 1)) ∧ (decode cX10_feed 18 = .ok (.aload_n 0, 1)) ∧ (decode cX10_feed 19 = .ok (.getfield 12, 3)) ∧ (decode cX10_feed 22 = .ok (.iload_n 1, 1)) ∧ (decode cX10_feed 23 = .ok (.invokevirtual 87, 3)) ∧ (decode cX10_feed 26 = .ok (.aload_n 0, 1)) ∧ (decode cX10_feed 27 = .ok (.getfield 12, 3)) ∧ (decode cX10_feed 30 = .ok (.iload_n 2, 1)) := by decide +kernel
theorem dX10_feed_0 : decode cX10_feed 0 = .ok (.aload_n 0, 1) := gdX10_feed_0.1
theorem dX10_feed_1 : decode cX10_feed 1 = .ok (.getfield 12, 3) := gdX10_feed_0.2.1
theorem dX10_feed_4 : decode cX10_feed 4 = .ok (.getfield 84, 3) := gdX10_feed_0.2.2.1
theorem dX10_feed_7 : decode cX10_feed 7 = .ok (.bipush 20, 2) := gdX10_feed_0.2.2.2.1
theorem dX10_feed_9 : decode cX10_feed 9 = .ok (.iadd, 1) := gdX10_feed_0.2.2.2.2.1
theorem dX10_feed_10 : decode cX10_feed 10 = .ok (.sipush 400, 3) := gdX10_feed_0.2.2.2.2.2.1
theorem dX10_feed_13 : decode cX10_feed 13 = .ok (.if_icmp .le 5, 3) := gdX10_feed_0.2.2.2.2.2.2.1
theorem dX10_feed_16 : decode cX10_feed 16 = .ok (.iconst (-1), 1) := gdX10_feed_0.2.2.2.2.2.2.2.1
theorem dX10_feed_17 : decode cX10_feed 17 = .ok (.ireturn, 1) := gdX10_feed_0.2.2.2.2.2.2.2.2.1
theorem dX10_feed_18 : decode cX10_feed 18 = .ok (.aload_n 0, 1) := gdX10_feed_0.2.2.2.2.2.2.2.2.2.1
theorem dX10_feed_19 : decode cX10_feed 19 = .ok (.getfield 12, 3) := gdX10_feed_0.2.2.2.2.2.2.2.2.2.2.1
theorem dX10_feed_22 : decode cX10_feed 22 = .ok (.iload_n 1, 1) := gdX10_feed_0.2.2.2.2.2.2.2.2.2.2.2.1
theorem dX10_feed_23 : decode cX10_feed 23 = .ok (.invokevirtual 87, 3) := gdX10_feed_0.2.2.2.2.2.2.2.2.2.2.2.2.1
theorem dX10_feed_26 : decode cX10_feed 26 = .ok (.aload_n 0, 1) := gdX10_feed_0.2.2.2.2.2.2.2.2.2.2.2.2.2.1
theorem dX10_feed_27 : decode cX10_feed 27 = .ok (.getfield 12, 3) := gdX10_feed_0.2.2.2.2.2.2.2.2.2.2.2.2.2.2.1
theorem dX10_feed_30 : decode cX10_feed 30 = .ok (.iload_n 2, 1) := gdX10_feed_0.2.2.2.2.2.2.2.2.2.2.2.2.2.2.2
theorem gdX10_feed_31 : (decode cX10_feed 31 = .ok (.invokevirtual 87, 3)) ∧ (decode cX10_feed 34 = .ok (.aload_n 0, 1)) ∧ (decode cX10_feed 35 = .ok (.getfield 12, 3)) ∧ (decode cX10_feed 38 = .ok (.iload_n 3, 1)) ∧ (decode cX10_feed 39 = .ok (.invokevirtual 87, 3)) ∧ (decode cX10_feed 42 = .ok (.aload_n 0, 1)) ∧ (decode cX10_feed 43 = .ok (.getfield 12, 3)) ∧ (decode cX10_feed 46 = .ok (.iload 4, 2)) ∧ (decode cX10_feed 48 = .ok (.invokevirtual 87, 3)) ∧ (decode cX10_feed 51 = .ok (.aload_n 0, 1)) ∧ (decode cX10_feed 52 = .ok (.getfield 12, 3)) ∧ (decode cX10_feed 55 = .ok (.iload 5, 2)) ∧ (decode cX10_feed 57 = .ok (.invokevirtual 87, 3)) ∧ (decode cX10_feed 60 = .ok (.aload_n 0, 1)) ∧ (decode cX10_feed 61 = .ok (.getfield 12, 3)) ∧ (decode cX10_feed 64 = .ok (.getfield 84, 3)) := by decide +kernel
theorem dX10_feed_31 : decode cX10_feed 31 = .ok (.invokevirtual 87, 3) := gdX10_feed_31.1
theorem dX10_feed_34 : decode cX10_feed 34 = .ok (.aload_n 0, 1) := gdX10_feed_31.2.1
theorem dX10_feed_35 : decode cX10_feed 35 = .ok (.getfield 12, 3) := gdX10_feed_31.2.2.1
theorem dX10_feed_38 : decode cX10_feed 38 = .ok (.iload_n 3, 1) := gdX10_feed_31.2.2.2.1
theorem dX10_feed_39 : decode cX10_feed 39 = .ok (.invokevirtual 87, 3) := gdX10_feed_31.2.2.2.2.1
theorem dX10_feed_42 : decode cX10_feed 42 = .ok (.aload_n 0, 1) := gdX10_feed_31.2.2.2.2.2.1
theorem dX10_feed_43 : decode cX10_feed 43 = .ok (.getfield 12, 3) := gdX10_feed_31.2.2.2.2.2.2.1
theorem dX10_feed_46 : decode cX10_feed 46 = .ok (.iload 4, 2) := gdX10_feed_31.2.2.2.2.2.2.2.1
theorem dX10_feed_48 : decode cX10_feed 48 = .ok (.invokevirtual 87, 3) := gdX10_feed_31.2.2.2.2.2.2.2.2.1
theorem dX10_feed_51 : decode cX10_feed 51 = .ok (.aload_n 0, 1) := gdX10_feed_31.2.2.2.2.2.2.2.2.2.1
theorem dX10_feed_52 : decode cX10_feed 52 = .ok (.getfield 12, 3) := gdX10_feed_31.2.2.2.2.2.2.2.2.2.2.1
theorem dX10_feed_55 : decode cX10_feed 55 = .ok (.iload 5, 2) := gdX10_feed_31.2.2.2.2.2.2.2.2.2.2.2.1
theorem dX10_feed_57 : decode cX10_feed 57 = .ok (.invokevirtual 87, 3) := gdX10_feed_31.2.2.2.2.2.2.2.2.2.2.2.2.1
theorem dX10_feed_60 : decode cX10_feed 60 = .ok (.aload_n 0, 1) := gdX10_feed_31.2.2.2.2.2.2.2.2.2.2.2.2.2.1
theorem dX10_feed_61 : decode cX10_feed 61 = .ok (.getfield 12, 3) := gdX10_feed_31.2.2.2.2.2.2.2.2.2.2.2.2.2.2.1
theorem dX10_feed_64 : decode cX10_feed 64 = .ok (.getfield 84, 3) := gdX10_feed_31.2.2.2.2.2.2.2.2.2.2.2.2.2.2.2
theorem dX10_feed_67 : decode cX10_feed 67 = .ok (.ireturn, 1) := by decide +kernel
theorem gdX10_end_0 : (decode cX10_end 0 = .ok (.iload_n 1, 1)) ∧ (decode cX10_end 1 = .ok (.iconst 0, 1)) ∧ (decode cX10_end 2 = .ok (.aload_n 0, 1)) ∧ (decode cX10_end 3 = .ok (.getfield 12, 3)) ∧ (decode cX10_end 6 = .ok (.getfield 84, 3)) ∧ (decode cX10_end 9 = .ok (.invokestatic 91, 3)) ∧ (decode cX10_end 12 = .ok (.ifCond .ne 5, 3)) ∧ (decode cX10_end 15 = .ok (.iconst (-1), 1)) ∧ (decode cX10_end 16 = .ok (.ireturn, 1)) ∧ (decode cX10_end 17 = .ok (.aload_n 0, 1)) ∧ (decode cX10_end 18 = .ok (.getfield 12, 3)) ∧ (decode cX10_end 21 = .ok (.iload_n 1, 1)) ∧ (decode cX10_end 22 = .ok (.putfield 84, 3)) ∧ (decode cX10_end 25 = .ok (.iload_n 1, 1)) ∧ (decode cX10_end 26 = .ok (.ireturn, 1)) := by decide +kernel
theorem dX10_end_0 : decode cX10_end 0 = .ok (.iload_n 1, 1) := gdX10_end_0.1
theorem dX10_end_1 : decode cX10_end 1 = .ok (.iconst 0, 1) := gdX10_end_0.2.1
theorem dX10_end_2 : decode cX10_end 2 = .ok (.aload_n 0, 1) := gdX10_end_0.2.2.1
theorem dX10_end_3 : decode cX10_end 3 = .ok (.getfield 12, 3) := gdX10_end_0.2.2.2.1
theorem dX10_end_6 : decode cX10_end 6 = .ok (.getfield 84, 3) := gdX10_end_0.2.2.2.2.1
theorem dX10_end_9 : decode cX10_end 9 = .ok (.invokestatic 91, 3) := gdX10_end_0.2.2.2.2.2.1
theorem dX10_end_12 : decode cX10_end 12 = .ok (.ifCond .ne 5, 3) := gdX10_end_0.2.2.2.2.2.2.1
theorem dX10_end_15 : decode cX10_end 15 = .ok (.iconst (-1), 1) := gdX10_end_0.2.2.2.2.2.2.2.1
theorem dX10_end_16 : decode cX10_end 16 = .ok (.ireturn, 1) := gdX10_end_0.2.2.2.2.2.2.2.2.1
theorem dX10_end_17 : decode cX10_end 17 = .ok (.aload_n 0, 1) := gdX10_end_0.2.2.2.2.2.2.2.2.2.1
theorem dX10_end_18 : decode cX10_end 18 = .ok (.getfield 12, 3) := gdX10_end_0.2.2.2.2.2.2.2.2.2.2.1
theorem dX10_end_21 : decode cX10_end 21 = .ok (.iload_n 1, 1) := gdX10_end_0.2.2.2.2.2.2.2.2.2.2.2.1
theorem dX10_end_22 : decode cX10_end 22 = .ok (.putfield 84, 3) := gdX10_end_0.2.2.2.2.2.2.2.2.2.2.2.2.1
theorem dX10_end_25 : decode cX10_end 25 = .ok (.iload_n 1, 1) := gdX10_end_0.2.2.2.2.2.2.2.2.2.2.2.2.2.1
theorem dX10_end_26 : decode cX10_end 26 = .ok (.ireturn, 1) := gdX10_end_0.2.2.2.2.2.2.2.2.2.2.2.2.2.2
theorem gdX10_tower_0 : (decode cX10_tower 0 = .ok (.aload_n 0, 1)) ∧ (decode cX10_tower 1 = .ok (.getfield 52, 3)) ∧ (decode cX10_tower 4 = .ok (.invokevirtual 95, 3)) ∧ (decode cX10_tower 7 = .ok (.istore_n 1, 1)) ∧ (decode cX10_tower 8 = .ok (.aload_n 0, 1)) ∧ (decode cX10_tower 9 = .ok (.getfield 12, 3)) ∧ (decode cX10_tower 12 = .ok (.iconst 0, 1)) ∧ (decode cX10_tower 13 = .ok (.putfield 84, 3)) ∧ (decode cX10_tower 16 = .ok (.iload_n 1, 1)) ∧ (decode cX10_tower 17 = .ok (.ifCond .ne 14, 3)) ∧ (decode cX10_tower 20 = .ok (.bipush (-2), 2)) ∧ (decode cX10_tower 22 = .ok (.aload_n 0, 1)) ∧ (decode cX10_tower 23 = .ok (.getfield 12, 3)) ∧ (decode cX10_tower 26 = .ok (.getfield 99, 3)) ∧ (decode cX10_tower 29 = .ok (.isub, 1)) ∧ (decode cX10_tower 30 = .ok (.ireturn, 1)) := by decide +kernel
theorem dX10_tower_0 : decode cX10_tower 0 = .ok (.aload_n 0, 1) := gdX10_tower_0.1
theorem dX10_tower_1 : decode cX10_tower 1 = .ok (.getfield 52, 3) := gdX10_tower_0.2.1
theorem dX10_tower_4 : decode cX10_tower 4 = .ok (.invokevirtual 95, 3) := gdX10_tower_0.2.2.1
theorem dX10_tower_7 : decode cX10_tower 7 = .ok (.istore_n 1, 1) := gdX10_tower_0.2.2.2.1
theorem dX10_tower_8 : decode cX10_tower 8 = .ok (.aload_n 0, 1) := gdX10_tower_0.2.2.2.2.1
theorem dX10_tower_9 : decode cX10_tower 9 = .ok (.getfield 12, 3) := gdX10_tower_0.2.2.2.2.2.1
theorem dX10_tower_12 : decode cX10_tower 12 = .ok (.iconst 0, 1) := gdX10_tower_0.2.2.2.2.2.2.1
theorem dX10_tower_13 : decode cX10_tower 13 = .ok (.putfield 84, 3) := gdX10_tower_0.2.2.2.2.2.2.2.1
theorem dX10_tower_16 : decode cX10_tower 16 = .ok (.iload_n 1, 1) := gdX10_tower_0.2.2.2.2.2.2.2.2.1
theorem dX10_tower_17 : decode cX10_tower 17 = .ok (.ifCond .ne 14, 3) := gdX10_tower_0.2.2.2.2.2.2.2.2.2.1
theorem dX10_tower_20 : decode cX10_tower 20 = .ok (.bipush (-2), 2) := gdX10_tower_0.2.2.2.2.2.2.2.2.2.2.1
theorem dX10_tower_22 : decode cX10_tower 22 = .ok (.aload_n 0, 1) := gdX10_tower_0.2.2.2.2.2.2.2.2.2.2.2.1
theorem dX10_tower_23 : decode cX10_tower 23 = .ok (.getfield 12, 3) := gdX10_tower_0.2.2.2.2.2.2.2.2.2.2.2.2.1
theorem dX10_tower_26 : decode cX10_tower 26 = .ok (.getfield 99, 3) := gdX10_tower_0.2.2.2.2.2.2.2.2.2.2.2.2.2.1
theorem dX10_tower_29 : decode cX10_tower 29 = .ok (.isub, 1) := gdX10_tower_0.2.2.2.2.2.2.2.2.2.2.2.2.2.2.1
theorem dX10_tower_30 : decode cX10_tower 30 = .ok (.ireturn, 1) := gdX10_tower_0.2.2.2.2.2.2.2.2.2.2.2.2.2.2.2
theorem gdX10_tower_31 : (decode cX10_tower 31 = .ok (.aload_n 0, 1)) ∧ (decode cX10_tower 32 = .ok (.getfield 19, 3)) ∧ (decode cX10_tower 35 = .ok (.getfield 102, 3)) ∧ (decode cX10_tower 38 = .ok (.aload_n 0, 1)) ∧ (decode cX10_tower 39 = .ok (.getfield 36, 3)) ∧ (decode cX10_tower 42 = .ok (.invokevirtual 105, 3)) ∧ (decode cX10_tower 45 = .ok (.aload_n 0, 1)) ∧ (decode cX10_tower 46 = .ok (.getfield 19, 3)) ∧ (decode cX10_tower 49 = .ok (.getfield 109, 3)) ∧ (decode cX10_tower 52 = .ok (.aload_n 0, 1)) ∧ (decode cX10_tower 53 = .ok (.getfield 43, 3)) ∧ (decode cX10_tower 56 = .ok (.invokevirtual 112, 3)) ∧ (decode cX10_tower 59 = .ok (.aload_n 0, 1)) ∧ (decode cX10_tower 60 = .ok (.getfield 19, 3)) ∧ (decode cX10_tower 63 = .ok (.getfield 115, 3)) ∧ (decode cX10_tower 66 = .ok (.iconst 0, 1)) := by decide +kernel
theorem dX10_tower_31 : decode cX10_tower 31 = .ok (.aload_n 0, 1) := gdX10_tower_31.1
theorem dX10_tower_32 : decode cX10_tower 32 = .ok (.getfield 19, 3) := gdX10_tower_31.2.1
theorem dX10_tower_35 : decode cX10_tower 35 = .ok (.getfield 102, 3) := gdX10_tower_31.2.2.1
theorem dX10_tower_38 : decode cX10_tower 38 = .ok (.aload_n 0, 1) := gdX10_tower_31.2.2.2.1
theorem dX10_tower_39 : decode cX10_tower 39 = .ok (.getfield 36, 3) := gdX10_tower_31.2.2.2.2.1
theorem dX10_tower_42 : decode cX10_tower 42 = .ok (.invokevirtual 105, 3) := gdX10_tower_31.2.2.2.2.2.1
theorem dX10_tower_45 : decode cX10_tower 45 = .ok (.aload_n 0, 1) := gdX10_tower_31.2.2.2.2.2.2.1
theorem dX10_tower_46 : decode cX10_tower 46 = .ok (.getfield 19, 3) := gdX10_tower_31.2.2.2.2.2.2.2.1
theorem dX10_tower_49 : decode cX10_tower 49 = .ok (.getfield 109, 3) := gdX10_tower_31.2.2.2.2.2.2.2.2.1
theorem dX10_tower_52 : decode cX10_tower 52 = .ok (.aload_n 0, 1) := gdX10_tower_31.2.2.2.2.2.2.2.2.2.1
theorem dX10_tower_53 : decode cX10_tower 53 = .ok (.getfield 43, 3) := gdX10_tower_31.2.2.2.2.2.2.2.2.2.2.1
theorem dX10_tower_56 : decode cX10_tower 56 = .ok (.invokevirtual 112, 3) := gdX10_tower_31.2.2.2.2.2.2.2.2.2.2.2.1
theorem dX10_tower_59 : decode cX10_tower 59 = .ok (.aload_n 0, 1) := gdX10_tower_31.2.2.2.2.2.2.2.2.2.2.2.2.1
theorem dX10_tower_60 : decode cX10_tower 60 = .ok (.getfield 19, 3) := gdX10_tower_31.2.2.2.2.2.2.2.2.2.2.2.2.2.1
theorem dX10_tower_63 : decode cX10_tower 63 = .ok (.getfield 115, 3) := gdX10_tower_31.2.2.2.2.2.2.2.2.2.2.2.2.2.2.1
theorem dX10_tower_66 : decode cX10_tower 66 = .ok (.iconst 0, 1) := gdX10_tower_31.2.2.2.2.2.2.2.2.2.2.2.2.2.2.2
theorem gdX10_tower_67 : (decode cX10_tower 67 = .ok (.putfield 119, 3)) ∧ (decode cX10_tower 70 = .ok (.aload_n 0, 1)) ∧ (decode cX10_tower 71 = .ok (.getfield 19, 3)) ∧ (decode cX10_tower 74 = .ok (.getfield 102, 3)) ∧ (decode cX10_tower 77 = .ok (.getfield 122, 3)) ∧ (decode cX10_tower 80 = .ok (.ireturn, 1)) := by decide +kernel
theorem dX10_tower_67 : decode cX10_tower 67 = .ok (.putfield 119, 3) := gdX10_tower_67.1
theorem dX10_tower_70 : decode cX10_tower 70 = .ok (.aload_n 0, 1) := gdX10_tower_67.2.1
theorem dX10_tower_71 : decode cX10_tower 71 = .ok (.getfield 19, 3) := gdX10_tower_67.2.2.1
theorem dX10_tower_74 : decode cX10_tower 74 = .ok (.getfield 102, 3) := gdX10_tower_67.2.2.2.1
theorem dX10_tower_77 : decode cX10_tower 77 = .ok (.getfield 122, 3) := gdX10_tower_67.2.2.2.2.1
theorem dX10_tower_80 : decode cX10_tower 80 = .ok (.ireturn, 1) := gdX10_tower_67.2.2.2.2.2
theorem gdX10_rule_0 : (decode cX10_rule 0 = .ok (.aload_n 0, 1)) ∧ (decode cX10_rule 1 = .ok (.getfield 79, 3)) ∧ (decode cX10_rule 4 = .ok (.bipush 6, 2)) ∧ (decode cX10_rule 6 = .ok (.if_icmp .lt 5, 3)) ∧ (decode cX10_rule 9 = .ok (.iconst (-1), 1)) ∧ (decode cX10_rule 10 = .ok (.ireturn, 1)) ∧ (decode cX10_rule 11 = .ok (.aload_n 0, 1)) ∧ (decode cX10_rule 12 = .ok (.getfield 61, 3)) ∧ (decode cX10_rule 15 = .ok (.invokevirtual 125, 3)) ∧ (decode cX10_rule 18 = .ok (.istore_n 1, 1)) ∧ (decode cX10_rule 19 = .ok (.aload_n 0, 1)) ∧ (decode cX10_rule 20 = .ok (.getfield 12, 3)) ∧ (decode cX10_rule 23 = .ok (.iconst 0, 1)) ∧ (decode cX10_rule 24 = .ok (.putfield 84, 3)) ∧ (decode cX10_rule 27 = .ok (.iload_n 1, 1)) ∧ (decode cX10_rule 28 = .ok (.ifCond .ne 14, 3)) := by decide +kernel
theorem dX10_rule_0 : decode cX10_rule 0 = .ok (.aload_n 0, 1) := gdX10_rule_0.1
theorem dX10_rule_1 : decode cX10_rule 1 = .ok (.getfield 79, 3) := gdX10_rule_0.2.1
theorem dX10_rule_4 : decode cX10_rule 4 = .ok (.bipush 6, 2) := gdX10_rule_0.2.2.1
theorem dX10_rule_6 : decode cX10_rule 6 = .ok (.if_icmp .lt 5, 3) := gdX10_rule_0.2.2.2.1
theorem dX10_rule_9 : decode cX10_rule 9 = .ok (.iconst (-1), 1) := gdX10_rule_0.2.2.2.2.1
theorem dX10_rule_10 : decode cX10_rule 10 = .ok (.ireturn, 1) := gdX10_rule_0.2.2.2.2.2.1
theorem dX10_rule_11 : decode cX10_rule 11 = .ok (.aload_n 0, 1) := gdX10_rule_0.2.2.2.2.2.2.1
theorem dX10_rule_12 : decode cX10_rule 12 = .ok (.getfield 61, 3) := gdX10_rule_0.2.2.2.2.2.2.2.1
theorem dX10_rule_15 : decode cX10_rule 15 = .ok (.invokevirtual 125, 3) := gdX10_rule_0.2.2.2.2.2.2.2.2.1
theorem dX10_rule_18 : decode cX10_rule 18 = .ok (.istore_n 1, 1) := gdX10_rule_0.2.2.2.2.2.2.2.2.2.1
theorem dX10_rule_19 : decode cX10_rule 19 = .ok (.aload_n 0, 1) := gdX10_rule_0.2.2.2.2.2.2.2.2.2.2.1
theorem dX10_rule_20 : decode cX10_rule 20 = .ok (.getfield 12, 3) := gdX10_rule_0.2.2.2.2.2.2.2.2.2.2.2.1
theorem dX10_rule_23 : decode cX10_rule 23 = .ok (.iconst 0, 1) := gdX10_rule_0.2.2.2.2.2.2.2.2.2.2.2.2.1
theorem dX10_rule_24 : decode cX10_rule 24 = .ok (.putfield 84, 3) := gdX10_rule_0.2.2.2.2.2.2.2.2.2.2.2.2.2.1
theorem dX10_rule_27 : decode cX10_rule 27 = .ok (.iload_n 1, 1) := gdX10_rule_0.2.2.2.2.2.2.2.2.2.2.2.2.2.2.1
theorem dX10_rule_28 : decode cX10_rule 28 = .ok (.ifCond .ne 14, 3) := gdX10_rule_0.2.2.2.2.2.2.2.2.2.2.2.2.2.2.2
theorem gdX10_rule_31 : (decode cX10_rule 31 = .ok (.bipush (-2), 2)) ∧ (decode cX10_rule 33 = .ok (.aload_n 0, 1)) ∧ (decode cX10_rule 34 = .ok (.getfield 12, 3)) ∧ (decode cX10_rule 37 = .ok (.getfield 99, 3)) ∧ (decode cX10_rule 40 = .ok (.isub, 1)) ∧ (decode cX10_rule 41 = .ok (.ireturn, 1)) ∧ (decode cX10_rule 42 = .ok (.aload_n 0, 1)) ∧ (decode cX10_rule 43 = .ok (.getfield 29, 3)) ∧ (decode cX10_rule 46 = .ok (.aload_n 0, 1)) ∧ (decode cX10_rule 47 = .ok (.getfield 79, 3)) ∧ (decode cX10_rule 50 = .ok (.aaload, 1)) ∧ (decode cX10_rule 51 = .ok (.aload_n 0, 1)) ∧ (decode cX10_rule 52 = .ok (.getfield 61, 3)) ∧ (decode cX10_rule 55 = .ok (.getfield 126, 3)) ∧ (decode cX10_rule 58 = .ok (.invokevirtual 130, 3)) ∧ (decode cX10_rule 61 = .ok (.aload_n 0, 1)) := by decide +kernel
theorem dX10_rule_31 : decode cX10_rule 31 = .ok (.bipush (-2), 2) := gdX10_rule_31.1
theorem dX10_rule_33 : decode cX10_rule 33 = .ok (.aload_n 0, 1) := gdX10_rule_31.2.1
theorem dX10_rule_34 : decode cX10_rule 34 = .ok (.getfield 12, 3) := gdX10_rule_31.2.2.1
theorem dX10_rule_37 : decode cX10_rule 37 = .ok (.getfield 99, 3) := gdX10_rule_31.2.2.2.1
theorem dX10_rule_40 : decode cX10_rule 40 = .ok (.isub, 1) := gdX10_rule_31.2.2.2.2.1
theorem dX10_rule_41 : decode cX10_rule 41 = .ok (.ireturn, 1) := gdX10_rule_31.2.2.2.2.2.1
theorem dX10_rule_42 : decode cX10_rule 42 = .ok (.aload_n 0, 1) := gdX10_rule_31.2.2.2.2.2.2.1
theorem dX10_rule_43 : decode cX10_rule 43 = .ok (.getfield 29, 3) := gdX10_rule_31.2.2.2.2.2.2.2.1
theorem dX10_rule_46 : decode cX10_rule 46 = .ok (.aload_n 0, 1) := gdX10_rule_31.2.2.2.2.2.2.2.2.1
theorem dX10_rule_47 : decode cX10_rule 47 = .ok (.getfield 79, 3) := gdX10_rule_31.2.2.2.2.2.2.2.2.2.1
theorem dX10_rule_50 : decode cX10_rule 50 = .ok (.aaload, 1) := gdX10_rule_31.2.2.2.2.2.2.2.2.2.2.1
theorem dX10_rule_51 : decode cX10_rule 51 = .ok (.aload_n 0, 1) := gdX10_rule_31.2.2.2.2.2.2.2.2.2.2.2.1
theorem dX10_rule_52 : decode cX10_rule 52 = .ok (.getfield 61, 3) := gdX10_rule_31.2.2.2.2.2.2.2.2.2.2.2.2.1
theorem dX10_rule_55 : decode cX10_rule 55 = .ok (.getfield 126, 3) := gdX10_rule_31.2.2.2.2.2.2.2.2.2.2.2.2.2.1
theorem dX10_rule_58 : decode cX10_rule 58 = .ok (.invokevirtual 130, 3) := gdX10_rule_31.2.2.2.2.2.2.2.2.2.2.2.2.2.2.1
theorem dX10_rule_61 : decode cX10_rule 61 = .ok (.aload_n 0, 1) := gdX10_rule_31.2.2.2.2.2.2.2.2.2.2.2.2.2.2.2
theorem gdX10_rule_62 : (decode cX10_rule 62 = .ok (.dup, 1)) ∧ (decode cX10_rule 63 = .ok (.getfield 79, 3)) ∧ (decode cX10_rule 66 = .ok (.iconst 1, 1)) ∧ (decode cX10_rule 67 = .ok (.iadd, 1)) ∧ (decode cX10_rule 68 = .ok (.putfield 79, 3)) ∧ (decode cX10_rule 71 = .ok (.aload_n 0, 1)) ∧ (decode cX10_rule 72 = .ok (.getfield 79, 3)) ∧ (decode cX10_rule 75 = .ok (.iconst 1, 1)) ∧ (decode cX10_rule 76 = .ok (.isub, 1)) ∧ (decode cX10_rule 77 = .ok (.ireturn, 1)) := by decide +kernel
theorem dX10_rule_62 : decode cX10_rule 62 = .ok (.dup, 1) := gdX10_rule_62.1
theorem dX10_rule_63 : decode cX10_rule 63 = .ok (.getfield 79, 3) := gdX10_rule_62.2.1
theorem dX10_rule_66 : decode cX10_rule 66 = .ok (.iconst 1, 1) := gdX10_rule_62.2.2.1
theorem dX10_rule_67 : decode cX10_rule 67 = .ok (.iadd, 1) := gdX10_rule_62.2.2.2.1
theorem dX10_rule_68 : decode cX10_rule 68 = .ok (.putfield 79, 3) := gdX10_rule_62.2.2.2.2.1
theorem dX10_rule_71 : decode cX10_rule 71 = .ok (.aload_n 0, 1) := gdX10_rule_62.2.2.2.2.2.1
theorem dX10_rule_72 : decode cX10_rule 72 = .ok (.getfield 79, 3) := gdX10_rule_62.2.2.2.2.2.2.1
theorem dX10_rule_75 : decode cX10_rule 75 = .ok (.iconst 1, 1) := gdX10_rule_62.2.2.2.2.2.2.2.1
theorem dX10_rule_76 : decode cX10_rule 76 = .ok (.isub, 1) := gdX10_rule_62.2.2.2.2.2.2.2.2.1
theorem dX10_rule_77 : decode cX10_rule 77 = .ok (.ireturn, 1) := gdX10_rule_62.2.2.2.2.2.2.2.2.2
theorem gdX10_floor_0 : (decode cX10_floor 0 = .ok (.aload_n 0, 1)) ∧ (decode cX10_floor 1 = .ok (.iload_n 1, 1)) ∧ (decode cX10_floor 2 = .ok (.invokevirtual 133, 3)) ∧ (decode cX10_floor 5 = .ok (.ifCond .eq 12, 3)) ∧ (decode cX10_floor 8 = .ok (.iload_n 2, 1)) ∧ (decode cX10_floor 9 = .ok (.iconst 0, 1)) ∧ (decode cX10_floor 10 = .ok (.iconst 2, 1)) ∧ (decode cX10_floor 11 = .ok (.invokestatic 91, 3)) ∧ (decode cX10_floor 14 = .ok (.ifCond .ne 5, 3)) ∧ (decode cX10_floor 17 = .ok (.iconst (-1), 1)) ∧ (decode cX10_floor 18 = .ok (.ireturn, 1)) ∧ (decode cX10_floor 19 = .ok (.iload_n 2, 1)) ∧ (decode cX10_floor 20 = .ok (.iconst 2, 1)) ∧ (decode cX10_floor 21 = .ok (.if_icmp .ne 15, 3)) ∧ (decode cX10_floor 24 = .ok (.aload_n 0, 1)) ∧ (decode cX10_floor 25 = .ok (.getfield 19, 3)) := by decide +kernel
theorem dX10_floor_0 : decode cX10_floor 0 = .ok (.aload_n 0, 1) := gdX10_floor_0.1
theorem dX10_floor_1 : decode cX10_floor 1 = .ok (.iload_n 1, 1) := gdX10_floor_0.2.1
theorem dX10_floor_2 : decode cX10_floor 2 = .ok (.invokevirtual 133, 3) := gdX10_floor_0.2.2.1
theorem dX10_floor_5 : decode cX10_floor 5 = .ok (.ifCond .eq 12, 3) := gdX10_floor_0.2.2.2.1
theorem dX10_floor_8 : decode cX10_floor 8 = .ok (.iload_n 2, 1) := gdX10_floor_0.2.2.2.2.1
theorem dX10_floor_9 : decode cX10_floor 9 = .ok (.iconst 0, 1) := gdX10_floor_0.2.2.2.2.2.1
theorem dX10_floor_10 : decode cX10_floor 10 = .ok (.iconst 2, 1) := gdX10_floor_0.2.2.2.2.2.2.1
theorem dX10_floor_11 : decode cX10_floor 11 = .ok (.invokestatic 91, 3) := gdX10_floor_0.2.2.2.2.2.2.2.1
theorem dX10_floor_14 : decode cX10_floor 14 = .ok (.ifCond .ne 5, 3) := gdX10_floor_0.2.2.2.2.2.2.2.2.1
theorem dX10_floor_17 : decode cX10_floor 17 = .ok (.iconst (-1), 1) := gdX10_floor_0.2.2.2.2.2.2.2.2.2.1
theorem dX10_floor_18 : decode cX10_floor 18 = .ok (.ireturn, 1) := gdX10_floor_0.2.2.2.2.2.2.2.2.2.2.1
theorem dX10_floor_19 : decode cX10_floor 19 = .ok (.iload_n 2, 1) := gdX10_floor_0.2.2.2.2.2.2.2.2.2.2.2.1
theorem dX10_floor_20 : decode cX10_floor 20 = .ok (.iconst 2, 1) := gdX10_floor_0.2.2.2.2.2.2.2.2.2.2.2.2.1
theorem dX10_floor_21 : decode cX10_floor 21 = .ok (.if_icmp .ne 15, 3) := gdX10_floor_0.2.2.2.2.2.2.2.2.2.2.2.2.2.1
theorem dX10_floor_24 : decode cX10_floor 24 = .ok (.aload_n 0, 1) := gdX10_floor_0.2.2.2.2.2.2.2.2.2.2.2.2.2.2.1
theorem dX10_floor_25 : decode cX10_floor 25 = .ok (.getfield 19, 3) := gdX10_floor_0.2.2.2.2.2.2.2.2.2.2.2.2.2.2.2
theorem gdX10_floor_28 : (decode cX10_floor 28 = .ok (.getfield 109, 3)) ∧ (decode cX10_floor 31 = .ok (.iload_n 1, 1)) ∧ (decode cX10_floor 32 = .ok (.invokevirtual 137, 3)) ∧ (decode cX10_floor 35 = .ok (.ireturn, 1)) ∧ (decode cX10_floor 36 = .ok (.aload_n 0, 1)) ∧ (decode cX10_floor 37 = .ok (.getfield 19, 3)) ∧ (decode cX10_floor 40 = .ok (.getfield 102, 3)) ∧ (decode cX10_floor 43 = .ok (.getfield 141, 3)) ∧ (decode cX10_floor 46 = .ok (.iload_n 1, 1)) ∧ (decode cX10_floor 47 = .ok (.laload, 1)) ∧ (decode cX10_floor 48 = .ok (.ldc2_w 145, 3)) ∧ (decode cX10_floor 51 = .ok (.iload_n 2, 1)) ∧ (decode cX10_floor 52 = .ok (.invokestatic 147, 3)) ∧ (decode cX10_floor 55 = .ok (.l2i, 1)) ∧ (decode cX10_floor 56 = .ok (.ireturn, 1)) := by decide +kernel
theorem dX10_floor_28 : decode cX10_floor 28 = .ok (.getfield 109, 3) := gdX10_floor_28.1
theorem dX10_floor_31 : decode cX10_floor 31 = .ok (.iload_n 1, 1) := gdX10_floor_28.2.1
theorem dX10_floor_32 : decode cX10_floor 32 = .ok (.invokevirtual 137, 3) := gdX10_floor_28.2.2.1
theorem dX10_floor_35 : decode cX10_floor 35 = .ok (.ireturn, 1) := gdX10_floor_28.2.2.2.1
theorem dX10_floor_36 : decode cX10_floor 36 = .ok (.aload_n 0, 1) := gdX10_floor_28.2.2.2.2.1
theorem dX10_floor_37 : decode cX10_floor 37 = .ok (.getfield 19, 3) := gdX10_floor_28.2.2.2.2.2.1
theorem dX10_floor_40 : decode cX10_floor 40 = .ok (.getfield 102, 3) := gdX10_floor_28.2.2.2.2.2.2.1
theorem dX10_floor_43 : decode cX10_floor 43 = .ok (.getfield 141, 3) := gdX10_floor_28.2.2.2.2.2.2.2.1
theorem dX10_floor_46 : decode cX10_floor 46 = .ok (.iload_n 1, 1) := gdX10_floor_28.2.2.2.2.2.2.2.2.1
theorem dX10_floor_47 : decode cX10_floor 47 = .ok (.laload, 1) := gdX10_floor_28.2.2.2.2.2.2.2.2.2.1
theorem dX10_floor_48 : decode cX10_floor 48 = .ok (.ldc2_w 145, 3) := gdX10_floor_28.2.2.2.2.2.2.2.2.2.2.1
theorem dX10_floor_51 : decode cX10_floor 51 = .ok (.iload_n 2, 1) := gdX10_floor_28.2.2.2.2.2.2.2.2.2.2.2.1
theorem dX10_floor_52 : decode cX10_floor 52 = .ok (.invokestatic 147, 3) := gdX10_floor_28.2.2.2.2.2.2.2.2.2.2.2.2.1
theorem dX10_floor_55 : decode cX10_floor 55 = .ok (.l2i, 1) := gdX10_floor_28.2.2.2.2.2.2.2.2.2.2.2.2.2.1
theorem dX10_floor_56 : decode cX10_floor 56 = .ok (.ireturn, 1) := gdX10_floor_28.2.2.2.2.2.2.2.2.2.2.2.2.2.2
theorem gdX10_stair_0 : (decode cX10_stair 0 = .ok (.aload_n 0, 1)) ∧ (decode cX10_stair 1 = .ok (.getfield 19, 3)) ∧ (decode cX10_stair 4 = .ok (.getfield 102, 3)) ∧ (decode cX10_stair 7 = .ok (.astore_n 3, 1)) ∧ (decode cX10_stair 8 = .ok (.iload_n 1, 1)) ∧ (decode cX10_stair 9 = .ok (.iconst 0, 1)) ∧ (decode cX10_stair 10 = .ok (.aload_n 3, 1)) ∧ (decode cX10_stair 11 = .ok (.getfield 151, 3)) ∧ (decode cX10_stair 14 = .ok (.iconst 1, 1)) ∧ (decode cX10_stair 15 = .ok (.isub, 1)) ∧ (decode cX10_stair 16 = .ok (.invokestatic 91, 3)) ∧ (decode cX10_stair 19 = .ok (.ifCond .eq 12, 3)) ∧ (decode cX10_stair 22 = .ok (.iload_n 2, 1)) ∧ (decode cX10_stair 23 = .ok (.iconst 0, 1)) ∧ (decode cX10_stair 24 = .ok (.iconst 4, 1)) ∧ (decode cX10_stair 25 = .ok (.invokestatic 91, 3)) := by decide +kernel
theorem dX10_stair_0 : decode cX10_stair 0 = .ok (.aload_n 0, 1) := gdX10_stair_0.1
theorem dX10_stair_1 : decode cX10_stair 1 = .ok (.getfield 19, 3) := gdX10_stair_0.2.1
theorem dX10_stair_4 : decode cX10_stair 4 = .ok (.getfield 102, 3) := gdX10_stair_0.2.2.1
theorem dX10_stair_7 : decode cX10_stair 7 = .ok (.astore_n 3, 1) := gdX10_stair_0.2.2.2.1
theorem dX10_stair_8 : decode cX10_stair 8 = .ok (.iload_n 1, 1) := gdX10_stair_0.2.2.2.2.1
theorem dX10_stair_9 : decode cX10_stair 9 = .ok (.iconst 0, 1) := gdX10_stair_0.2.2.2.2.2.1
theorem dX10_stair_10 : decode cX10_stair 10 = .ok (.aload_n 3, 1) := gdX10_stair_0.2.2.2.2.2.2.1
theorem dX10_stair_11 : decode cX10_stair 11 = .ok (.getfield 151, 3) := gdX10_stair_0.2.2.2.2.2.2.2.1
theorem dX10_stair_14 : decode cX10_stair 14 = .ok (.iconst 1, 1) := gdX10_stair_0.2.2.2.2.2.2.2.2.1
theorem dX10_stair_15 : decode cX10_stair 15 = .ok (.isub, 1) := gdX10_stair_0.2.2.2.2.2.2.2.2.2.1
theorem dX10_stair_16 : decode cX10_stair 16 = .ok (.invokestatic 91, 3) := gdX10_stair_0.2.2.2.2.2.2.2.2.2.2.1
theorem dX10_stair_19 : decode cX10_stair 19 = .ok (.ifCond .eq 12, 3) := gdX10_stair_0.2.2.2.2.2.2.2.2.2.2.2.1
theorem dX10_stair_22 : decode cX10_stair 22 = .ok (.iload_n 2, 1) := gdX10_stair_0.2.2.2.2.2.2.2.2.2.2.2.2.1
theorem dX10_stair_23 : decode cX10_stair 23 = .ok (.iconst 0, 1) := gdX10_stair_0.2.2.2.2.2.2.2.2.2.2.2.2.2.1
theorem dX10_stair_24 : decode cX10_stair 24 = .ok (.iconst 4, 1) := gdX10_stair_0.2.2.2.2.2.2.2.2.2.2.2.2.2.2.1
theorem dX10_stair_25 : decode cX10_stair 25 = .ok (.invokestatic 91, 3) := gdX10_stair_0.2.2.2.2.2.2.2.2.2.2.2.2.2.2.2
theorem gdX10_stair_28 : (decode cX10_stair 28 = .ok (.ifCond .ne 5, 3)) ∧ (decode cX10_stair 31 = .ok (.iconst (-1), 1)) ∧ (decode cX10_stair 32 = .ok (.ireturn, 1)) ∧ (decode cX10_stair 33 = .ok (.iload_n 2, 1)) ∧ (decode cX10_stair 34 = .ok (.tableswitch 47 0 2 #[26, 33, 40], 26)) ∧ (decode cX10_stair 60 = .ok (.aload_n 3, 1)) ∧ (decode cX10_stair 61 = .ok (.getfield 154, 3)) ∧ (decode cX10_stair 64 = .ok (.iload_n 1, 1)) ∧ (decode cX10_stair 65 = .ok (.iaload, 1)) ∧ (decode cX10_stair 66 = .ok (.ireturn, 1)) ∧ (decode cX10_stair 67 = .ok (.aload_n 3, 1)) ∧ (decode cX10_stair 68 = .ok (.getfield 158, 3)) ∧ (decode cX10_stair 71 = .ok (.iload_n 1, 1)) ∧ (decode cX10_stair 72 = .ok (.iaload, 1)) ∧ (decode cX10_stair 73 = .ok (.ireturn, 1)) ∧ (decode cX10_stair 74 = .ok (.aload_n 3, 1)) := by decide +kernel
theorem dX10_stair_28 : decode cX10_stair 28 = .ok (.ifCond .ne 5, 3) := gdX10_stair_28.1
theorem dX10_stair_31 : decode cX10_stair 31 = .ok (.iconst (-1), 1) := gdX10_stair_28.2.1
theorem dX10_stair_32 : decode cX10_stair 32 = .ok (.ireturn, 1) := gdX10_stair_28.2.2.1
theorem dX10_stair_33 : decode cX10_stair 33 = .ok (.iload_n 2, 1) := gdX10_stair_28.2.2.2.1
theorem dX10_stair_34 : decode cX10_stair 34 = .ok (.tableswitch 47 0 2 #[26, 33, 40], 26) := gdX10_stair_28.2.2.2.2.1
theorem dX10_stair_60 : decode cX10_stair 60 = .ok (.aload_n 3, 1) := gdX10_stair_28.2.2.2.2.2.1
theorem dX10_stair_61 : decode cX10_stair 61 = .ok (.getfield 154, 3) := gdX10_stair_28.2.2.2.2.2.2.1
theorem dX10_stair_64 : decode cX10_stair 64 = .ok (.iload_n 1, 1) := gdX10_stair_28.2.2.2.2.2.2.2.1
theorem dX10_stair_65 : decode cX10_stair 65 = .ok (.iaload, 1) := gdX10_stair_28.2.2.2.2.2.2.2.2.1
theorem dX10_stair_66 : decode cX10_stair 66 = .ok (.ireturn, 1) := gdX10_stair_28.2.2.2.2.2.2.2.2.2.1
theorem dX10_stair_67 : decode cX10_stair 67 = .ok (.aload_n 3, 1) := gdX10_stair_28.2.2.2.2.2.2.2.2.2.2.1
theorem dX10_stair_68 : decode cX10_stair 68 = .ok (.getfield 158, 3) := gdX10_stair_28.2.2.2.2.2.2.2.2.2.2.2.1
theorem dX10_stair_71 : decode cX10_stair 71 = .ok (.iload_n 1, 1) := gdX10_stair_28.2.2.2.2.2.2.2.2.2.2.2.2.1
theorem dX10_stair_72 : decode cX10_stair 72 = .ok (.iaload, 1) := gdX10_stair_28.2.2.2.2.2.2.2.2.2.2.2.2.2.1
theorem dX10_stair_73 : decode cX10_stair 73 = .ok (.ireturn, 1) := gdX10_stair_28.2.2.2.2.2.2.2.2.2.2.2.2.2.2.1
theorem dX10_stair_74 : decode cX10_stair 74 = .ok (.aload_n 3, 1) := gdX10_stair_28.2.2.2.2.2.2.2.2.2.2.2.2.2.2.2
theorem gdX10_stair_75 : (decode cX10_stair 75 = .ok (.getfield 161, 3)) ∧ (decode cX10_stair 78 = .ok (.iload_n 1, 1)) ∧ (decode cX10_stair 79 = .ok (.iaload, 1)) ∧ (decode cX10_stair 80 = .ok (.ireturn, 1)) ∧ (decode cX10_stair 81 = .ok (.aload_n 3, 1)) ∧ (decode cX10_stair 82 = .ok (.getfield 164, 3)) ∧ (decode cX10_stair 85 = .ok (.iload_n 1, 1)) ∧ (decode cX10_stair 86 = .ok (.laload, 1)) ∧ (decode cX10_stair 87 = .ok (.ldc2_w 145, 3)) ∧ (decode cX10_stair 90 = .ok (.iload_n 2, 1)) ∧ (decode cX10_stair 91 = .ok (.iconst 3, 1)) ∧ (decode cX10_stair 92 = .ok (.isub, 1)) ∧ (decode cX10_stair 93 = .ok (.invokestatic 147, 3)) ∧ (decode cX10_stair 96 = .ok (.l2i, 1)) ∧ (decode cX10_stair 97 = .ok (.ireturn, 1)) := by decide +kernel
theorem dX10_stair_75 : decode cX10_stair 75 = .ok (.getfield 161, 3) := gdX10_stair_75.1
theorem dX10_stair_78 : decode cX10_stair 78 = .ok (.iload_n 1, 1) := gdX10_stair_75.2.1
theorem dX10_stair_79 : decode cX10_stair 79 = .ok (.iaload, 1) := gdX10_stair_75.2.2.1
theorem dX10_stair_80 : decode cX10_stair 80 = .ok (.ireturn, 1) := gdX10_stair_75.2.2.2.1
theorem dX10_stair_81 : decode cX10_stair 81 = .ok (.aload_n 3, 1) := gdX10_stair_75.2.2.2.2.1
theorem dX10_stair_82 : decode cX10_stair 82 = .ok (.getfield 164, 3) := gdX10_stair_75.2.2.2.2.2.1
theorem dX10_stair_85 : decode cX10_stair 85 = .ok (.iload_n 1, 1) := gdX10_stair_75.2.2.2.2.2.2.1
theorem dX10_stair_86 : decode cX10_stair 86 = .ok (.laload, 1) := gdX10_stair_75.2.2.2.2.2.2.2.1
theorem dX10_stair_87 : decode cX10_stair 87 = .ok (.ldc2_w 145, 3) := gdX10_stair_75.2.2.2.2.2.2.2.2.1
theorem dX10_stair_90 : decode cX10_stair 90 = .ok (.iload_n 2, 1) := gdX10_stair_75.2.2.2.2.2.2.2.2.2.1
theorem dX10_stair_91 : decode cX10_stair 91 = .ok (.iconst 3, 1) := gdX10_stair_75.2.2.2.2.2.2.2.2.2.2.1
theorem dX10_stair_92 : decode cX10_stair 92 = .ok (.isub, 1) := gdX10_stair_75.2.2.2.2.2.2.2.2.2.2.2.1
theorem dX10_stair_93 : decode cX10_stair 93 = .ok (.invokestatic 147, 3) := gdX10_stair_75.2.2.2.2.2.2.2.2.2.2.2.2.1
theorem dX10_stair_96 : decode cX10_stair 96 = .ok (.l2i, 1) := gdX10_stair_75.2.2.2.2.2.2.2.2.2.2.2.2.2.1
theorem dX10_stair_97 : decode cX10_stair 97 = .ok (.ireturn, 1) := gdX10_stair_75.2.2.2.2.2.2.2.2.2.2.2.2.2.2
theorem gdX10_thing_0 : (decode cX10_thing 0 = .ok (.aload_n 0, 1)) ∧ (decode cX10_thing 1 = .ok (.iload_n 1, 1)) ∧ (decode cX10_thing 2 = .ok (.invokevirtual 167, 3)) ∧ (decode cX10_thing 5 = .ok (.ifCond .eq 12, 3)) ∧ (decode cX10_thing 8 = .ok (.iload_n 2, 1)) ∧ (decode cX10_thing 9 = .ok (.iconst 0, 1)) ∧ (decode cX10_thing 10 = .ok (.iconst 3, 1)) ∧ (decode cX10_thing 11 = .ok (.invokestatic 91, 3)) ∧ (decode cX10_thing 14 = .ok (.ifCond .ne 6, 3)) ∧ (decode cX10_thing 17 = .ok (.bipush (-2), 2)) ∧ (decode cX10_thing 19 = .ok (.ireturn, 1)) ∧ (decode cX10_thing 20 = .ok (.aload_n 0, 1)) ∧ (decode cX10_thing 21 = .ok (.getfield 19, 3)) ∧ (decode cX10_thing 24 = .ok (.getfield 109, 3)) ∧ (decode cX10_thing 27 = .ok (.astore_n 3, 1)) ∧ (decode cX10_thing 28 = .ok (.iload_n 2, 1)) := by decide +kernel
theorem dX10_thing_0 : decode cX10_thing 0 = .ok (.aload_n 0, 1) := gdX10_thing_0.1
theorem dX10_thing_1 : decode cX10_thing 1 = .ok (.iload_n 1, 1) := gdX10_thing_0.2.1
theorem dX10_thing_2 : decode cX10_thing 2 = .ok (.invokevirtual 167, 3) := gdX10_thing_0.2.2.1
theorem dX10_thing_5 : decode cX10_thing 5 = .ok (.ifCond .eq 12, 3) := gdX10_thing_0.2.2.2.1
theorem dX10_thing_8 : decode cX10_thing 8 = .ok (.iload_n 2, 1) := gdX10_thing_0.2.2.2.2.1
theorem dX10_thing_9 : decode cX10_thing 9 = .ok (.iconst 0, 1) := gdX10_thing_0.2.2.2.2.2.1
theorem dX10_thing_10 : decode cX10_thing 10 = .ok (.iconst 3, 1) := gdX10_thing_0.2.2.2.2.2.2.1
theorem dX10_thing_11 : decode cX10_thing 11 = .ok (.invokestatic 91, 3) := gdX10_thing_0.2.2.2.2.2.2.2.1
theorem dX10_thing_14 : decode cX10_thing 14 = .ok (.ifCond .ne 6, 3) := gdX10_thing_0.2.2.2.2.2.2.2.2.1
theorem dX10_thing_17 : decode cX10_thing 17 = .ok (.bipush (-2), 2) := gdX10_thing_0.2.2.2.2.2.2.2.2.2.1
theorem dX10_thing_19 : decode cX10_thing 19 = .ok (.ireturn, 1) := gdX10_thing_0.2.2.2.2.2.2.2.2.2.2.1
theorem dX10_thing_20 : decode cX10_thing 20 = .ok (.aload_n 0, 1) := gdX10_thing_0.2.2.2.2.2.2.2.2.2.2.2.1
theorem dX10_thing_21 : decode cX10_thing 21 = .ok (.getfield 19, 3) := gdX10_thing_0.2.2.2.2.2.2.2.2.2.2.2.2.1
theorem dX10_thing_24 : decode cX10_thing 24 = .ok (.getfield 109, 3) := gdX10_thing_0.2.2.2.2.2.2.2.2.2.2.2.2.2.1
theorem dX10_thing_27 : decode cX10_thing 27 = .ok (.astore_n 3, 1) := gdX10_thing_0.2.2.2.2.2.2.2.2.2.2.2.2.2.2.1
theorem dX10_thing_28 : decode cX10_thing 28 = .ok (.iload_n 2, 1) := gdX10_thing_0.2.2.2.2.2.2.2.2.2.2.2.2.2.2.2
theorem gdX10_thing_29 : (decode cX10_thing 29 = .ok (.tableswitch 48 0 2 #[27, 34, 41], 27)) ∧ (decode cX10_thing 56 = .ok (.aload_n 3, 1)) ∧ (decode cX10_thing 57 = .ok (.getfield 170, 3)) ∧ (decode cX10_thing 60 = .ok (.iload_n 1, 1)) ∧ (decode cX10_thing 61 = .ok (.iaload, 1)) ∧ (decode cX10_thing 62 = .ok (.ireturn, 1)) ∧ (decode cX10_thing 63 = .ok (.aload_n 3, 1)) ∧ (decode cX10_thing 64 = .ok (.getfield 173, 3)) ∧ (decode cX10_thing 67 = .ok (.iload_n 1, 1)) ∧ (decode cX10_thing 68 = .ok (.iaload, 1)) ∧ (decode cX10_thing 69 = .ok (.ireturn, 1)) ∧ (decode cX10_thing 70 = .ok (.aload_n 3, 1)) ∧ (decode cX10_thing 71 = .ok (.getfield 176, 3)) ∧ (decode cX10_thing 74 = .ok (.iload_n 1, 1)) ∧ (decode cX10_thing 75 = .ok (.iaload, 1)) ∧ (decode cX10_thing 76 = .ok (.ireturn, 1)) := by decide +kernel
theorem dX10_thing_29 : decode cX10_thing 29 = .ok (.tableswitch 48 0 2 #[27, 34, 41], 27) := gdX10_thing_29.1
theorem dX10_thing_56 : decode cX10_thing 56 = .ok (.aload_n 3, 1) := gdX10_thing_29.2.1
theorem dX10_thing_57 : decode cX10_thing 57 = .ok (.getfield 170, 3) := gdX10_thing_29.2.2.1
theorem dX10_thing_60 : decode cX10_thing 60 = .ok (.iload_n 1, 1) := gdX10_thing_29.2.2.2.1
theorem dX10_thing_61 : decode cX10_thing 61 = .ok (.iaload, 1) := gdX10_thing_29.2.2.2.2.1
theorem dX10_thing_62 : decode cX10_thing 62 = .ok (.ireturn, 1) := gdX10_thing_29.2.2.2.2.2.1
theorem dX10_thing_63 : decode cX10_thing 63 = .ok (.aload_n 3, 1) := gdX10_thing_29.2.2.2.2.2.2.1
theorem dX10_thing_64 : decode cX10_thing 64 = .ok (.getfield 173, 3) := gdX10_thing_29.2.2.2.2.2.2.2.1
theorem dX10_thing_67 : decode cX10_thing 67 = .ok (.iload_n 1, 1) := gdX10_thing_29.2.2.2.2.2.2.2.2.1
theorem dX10_thing_68 : decode cX10_thing 68 = .ok (.iaload, 1) := gdX10_thing_29.2.2.2.2.2.2.2.2.2.1
theorem dX10_thing_69 : decode cX10_thing 69 = .ok (.ireturn, 1) := gdX10_thing_29.2.2.2.2.2.2.2.2.2.2.1
theorem dX10_thing_70 : decode cX10_thing 70 = .ok (.aload_n 3, 1) := gdX10_thing_29.2.2.2.2.2.2.2.2.2.2.2.1
theorem dX10_thing_71 : decode cX10_thing 71 = .ok (.getfield 176, 3) := gdX10_thing_29.2.2.2.2.2.2.2.2.2.2.2.2.1
theorem dX10_thing_74 : decode cX10_thing 74 = .ok (.iload_n 1, 1) := gdX10_thing_29.2.2.2.2.2.2.2.2.2.2.2.2.2.1
theorem dX10_thing_75 : decode cX10_thing 75 = .ok (.iaload, 1) := gdX10_thing_29.2.2.2.2.2.2.2.2.2.2.2.2.2.2.1
theorem dX10_thing_76 : decode cX10_thing 76 = .ok (.ireturn, 1) := gdX10_thing_29.2.2.2.2.2.2.2.2.2.2.2.2.2.2.2
theorem gdX10_thing_77 : (decode cX10_thing 77 = .ok (.aload_n 3, 1)) ∧ (decode cX10_thing 78 = .ok (.getfield 179, 3)) ∧ (decode cX10_thing 81 = .ok (.iload_n 1, 1)) ∧ (decode cX10_thing 82 = .ok (.iaload, 1)) ∧ (decode cX10_thing 83 = .ok (.ireturn, 1)) := by decide +kernel
theorem dX10_thing_77 : decode cX10_thing 77 = .ok (.aload_n 3, 1) := gdX10_thing_77.1
theorem dX10_thing_78 : decode cX10_thing 78 = .ok (.getfield 179, 3) := gdX10_thing_77.2.1
theorem dX10_thing_81 : decode cX10_thing 81 = .ok (.iload_n 1, 1) := gdX10_thing_77.2.2.1
theorem dX10_thing_82 : decode cX10_thing 82 = .ok (.iaload, 1) := gdX10_thing_77.2.2.2.1
theorem dX10_thing_83 : decode cX10_thing 83 = .ok (.ireturn, 1) := gdX10_thing_77.2.2.2.2
theorem gdX10_age_0 : (decode cX10_age 0 = .ok (.aload_n 0, 1)) ∧ (decode cX10_age 1 = .ok (.iload_n 1, 1)) ∧ (decode cX10_age 2 = .ok (.invokevirtual 167, 3)) ∧ (decode cX10_age 5 = .ok (.ifCond .eq 10, 3)) ∧ (decode cX10_age 8 = .ok (.iload_n 2, 1)) ∧ (decode cX10_age 9 = .ok (.invokestatic 182, 3)) ∧ (decode cX10_age 12 = .ok (.ifCond .ne 7, 3)) ∧ (decode cX10_age 15 = .ok (.ldc2_w 185, 3)) ∧ (decode cX10_age 18 = .ok (.lreturn, 1)) ∧ (decode cX10_age 19 = .ok (.aload_n 0, 1)) ∧ (decode cX10_age 20 = .ok (.getfield 19, 3)) ∧ (decode cX10_age 23 = .ok (.getfield 109, 3)) ∧ (decode cX10_age 26 = .ok (.getfield 187, 3)) ∧ (decode cX10_age 29 = .ok (.iload_n 1, 1)) ∧ (decode cX10_age 30 = .ok (.laload, 1)) ∧ (decode cX10_age 31 = .ok (.ldc2_w 145, 3)) := by decide +kernel
theorem dX10_age_0 : decode cX10_age 0 = .ok (.aload_n 0, 1) := gdX10_age_0.1
theorem dX10_age_1 : decode cX10_age 1 = .ok (.iload_n 1, 1) := gdX10_age_0.2.1
theorem dX10_age_2 : decode cX10_age 2 = .ok (.invokevirtual 167, 3) := gdX10_age_0.2.2.1
theorem dX10_age_5 : decode cX10_age 5 = .ok (.ifCond .eq 10, 3) := gdX10_age_0.2.2.2.1
theorem dX10_age_8 : decode cX10_age 8 = .ok (.iload_n 2, 1) := gdX10_age_0.2.2.2.2.1
theorem dX10_age_9 : decode cX10_age 9 = .ok (.invokestatic 182, 3) := gdX10_age_0.2.2.2.2.2.1
theorem dX10_age_12 : decode cX10_age 12 = .ok (.ifCond .ne 7, 3) := gdX10_age_0.2.2.2.2.2.2.1
theorem dX10_age_15 : decode cX10_age 15 = .ok (.ldc2_w 185, 3) := gdX10_age_0.2.2.2.2.2.2.2.1
theorem dX10_age_18 : decode cX10_age 18 = .ok (.lreturn, 1) := gdX10_age_0.2.2.2.2.2.2.2.2.1
theorem dX10_age_19 : decode cX10_age 19 = .ok (.aload_n 0, 1) := gdX10_age_0.2.2.2.2.2.2.2.2.2.1
theorem dX10_age_20 : decode cX10_age 20 = .ok (.getfield 19, 3) := gdX10_age_0.2.2.2.2.2.2.2.2.2.2.1
theorem dX10_age_23 : decode cX10_age 23 = .ok (.getfield 109, 3) := gdX10_age_0.2.2.2.2.2.2.2.2.2.2.2.1
theorem dX10_age_26 : decode cX10_age 26 = .ok (.getfield 187, 3) := gdX10_age_0.2.2.2.2.2.2.2.2.2.2.2.2.1
theorem dX10_age_29 : decode cX10_age 29 = .ok (.iload_n 1, 1) := gdX10_age_0.2.2.2.2.2.2.2.2.2.2.2.2.2.1
theorem dX10_age_30 : decode cX10_age 30 = .ok (.laload, 1) := gdX10_age_0.2.2.2.2.2.2.2.2.2.2.2.2.2.2.1
theorem dX10_age_31 : decode cX10_age 31 = .ok (.ldc2_w 145, 3) := gdX10_age_0.2.2.2.2.2.2.2.2.2.2.2.2.2.2.2
theorem gdX10_age_34 : (decode cX10_age 34 = .ok (.iload_n 2, 1)) ∧ (decode cX10_age 35 = .ok (.invokestatic 147, 3)) ∧ (decode cX10_age 38 = .ok (.lreturn, 1)) := by decide +kernel
theorem dX10_age_34 : decode cX10_age 34 = .ok (.iload_n 2, 1) := gdX10_age_34.1
theorem dX10_age_35 : decode cX10_age 35 = .ok (.invokestatic 147, 3) := gdX10_age_34.2.1
theorem dX10_age_38 : decode cX10_age 38 = .ok (.lreturn, 1) := gdX10_age_34.2.2
theorem gdX10_older_0 : (decode cX10_older 0 = .ok (.aload_n 0, 1)) ∧ (decode cX10_older 1 = .ok (.iload_n 1, 1)) ∧ (decode cX10_older 2 = .ok (.invokevirtual 167, 3)) ∧ (decode cX10_older 5 = .ok (.ifCond .eq 11, 3)) ∧ (decode cX10_older 8 = .ok (.aload_n 0, 1)) ∧ (decode cX10_older 9 = .ok (.iload_n 2, 1)) ∧ (decode cX10_older 10 = .ok (.invokevirtual 167, 3)) ∧ (decode cX10_older 13 = .ok (.ifCond .ne 6, 3)) ∧ (decode cX10_older 16 = .ok (.bipush (-2), 2)) ∧ (decode cX10_older 18 = .ok (.ireturn, 1)) ∧ (decode cX10_older 19 = .ok (.aload_n 0, 1)) ∧ (decode cX10_older 20 = .ok (.getfield 19, 3)) ∧ (decode cX10_older 23 = .ok (.getfield 109, 3)) ∧ (decode cX10_older 26 = .ok (.getfield 187, 3)) ∧ (decode cX10_older 29 = .ok (.iload_n 1, 1)) ∧ (decode cX10_older 30 = .ok (.laload, 1)) := by decide +kernel
theorem dX10_older_0 : decode cX10_older 0 = .ok (.aload_n 0, 1) := gdX10_older_0.1
theorem dX10_older_1 : decode cX10_older 1 = .ok (.iload_n 1, 1) := gdX10_older_0.2.1
theorem dX10_older_2 : decode cX10_older 2 = .ok (.invokevirtual 167, 3) := gdX10_older_0.2.2.1
theorem dX10_older_5 : decode cX10_older 5 = .ok (.ifCond .eq 11, 3) := gdX10_older_0.2.2.2.1
theorem dX10_older_8 : decode cX10_older 8 = .ok (.aload_n 0, 1) := gdX10_older_0.2.2.2.2.1
theorem dX10_older_9 : decode cX10_older 9 = .ok (.iload_n 2, 1) := gdX10_older_0.2.2.2.2.2.1
theorem dX10_older_10 : decode cX10_older 10 = .ok (.invokevirtual 167, 3) := gdX10_older_0.2.2.2.2.2.2.1
theorem dX10_older_13 : decode cX10_older 13 = .ok (.ifCond .ne 6, 3) := gdX10_older_0.2.2.2.2.2.2.2.1
theorem dX10_older_16 : decode cX10_older 16 = .ok (.bipush (-2), 2) := gdX10_older_0.2.2.2.2.2.2.2.2.1
theorem dX10_older_18 : decode cX10_older 18 = .ok (.ireturn, 1) := gdX10_older_0.2.2.2.2.2.2.2.2.2.1
theorem dX10_older_19 : decode cX10_older 19 = .ok (.aload_n 0, 1) := gdX10_older_0.2.2.2.2.2.2.2.2.2.2.1
theorem dX10_older_20 : decode cX10_older 20 = .ok (.getfield 19, 3) := gdX10_older_0.2.2.2.2.2.2.2.2.2.2.2.1
theorem dX10_older_23 : decode cX10_older 23 = .ok (.getfield 109, 3) := gdX10_older_0.2.2.2.2.2.2.2.2.2.2.2.2.1
theorem dX10_older_26 : decode cX10_older 26 = .ok (.getfield 187, 3) := gdX10_older_0.2.2.2.2.2.2.2.2.2.2.2.2.2.1
theorem dX10_older_29 : decode cX10_older 29 = .ok (.iload_n 1, 1) := gdX10_older_0.2.2.2.2.2.2.2.2.2.2.2.2.2.2.1
theorem dX10_older_30 : decode cX10_older 30 = .ok (.laload, 1) := gdX10_older_0.2.2.2.2.2.2.2.2.2.2.2.2.2.2.2
theorem gdX10_older_31 : (decode cX10_older 31 = .ok (.aload_n 0, 1)) ∧ (decode cX10_older 32 = .ok (.getfield 19, 3)) ∧ (decode cX10_older 35 = .ok (.getfield 109, 3)) ∧ (decode cX10_older 38 = .ok (.getfield 187, 3)) ∧ (decode cX10_older 41 = .ok (.iload_n 2, 1)) ∧ (decode cX10_older 42 = .ok (.laload, 1)) ∧ (decode cX10_older 43 = .ok (.lsub, 1)) ∧ (decode cX10_older 44 = .ok (.lstore_n 3, 1)) ∧ (decode cX10_older 45 = .ok (.lload_n 3, 1)) ∧ (decode cX10_older 46 = .ok (.lconst 0, 1)) ∧ (decode cX10_older 47 = .ok (.lcmp, 1)) ∧ (decode cX10_older 48 = .ok (.ifCond .ne 5, 3)) ∧ (decode cX10_older 51 = .ok (.iconst 0, 1)) ∧ (decode cX10_older 52 = .ok (.ireturn, 1)) ∧ (decode cX10_older 53 = .ok (.lload_n 3, 1)) ∧ (decode cX10_older 54 = .ok (.lconst 0, 1)) := by decide +kernel
theorem dX10_older_31 : decode cX10_older 31 = .ok (.aload_n 0, 1) := gdX10_older_31.1
theorem dX10_older_32 : decode cX10_older 32 = .ok (.getfield 19, 3) := gdX10_older_31.2.1
theorem dX10_older_35 : decode cX10_older 35 = .ok (.getfield 109, 3) := gdX10_older_31.2.2.1
theorem dX10_older_38 : decode cX10_older 38 = .ok (.getfield 187, 3) := gdX10_older_31.2.2.2.1
theorem dX10_older_41 : decode cX10_older 41 = .ok (.iload_n 2, 1) := gdX10_older_31.2.2.2.2.1
theorem dX10_older_42 : decode cX10_older 42 = .ok (.laload, 1) := gdX10_older_31.2.2.2.2.2.1
theorem dX10_older_43 : decode cX10_older 43 = .ok (.lsub, 1) := gdX10_older_31.2.2.2.2.2.2.1
theorem dX10_older_44 : decode cX10_older 44 = .ok (.lstore_n 3, 1) := gdX10_older_31.2.2.2.2.2.2.2.1
theorem dX10_older_45 : decode cX10_older 45 = .ok (.lload_n 3, 1) := gdX10_older_31.2.2.2.2.2.2.2.2.1
theorem dX10_older_46 : decode cX10_older 46 = .ok (.lconst 0, 1) := gdX10_older_31.2.2.2.2.2.2.2.2.2.1
theorem dX10_older_47 : decode cX10_older 47 = .ok (.lcmp, 1) := gdX10_older_31.2.2.2.2.2.2.2.2.2.2.1
theorem dX10_older_48 : decode cX10_older 48 = .ok (.ifCond .ne 5, 3) := gdX10_older_31.2.2.2.2.2.2.2.2.2.2.2.1
theorem dX10_older_51 : decode cX10_older 51 = .ok (.iconst 0, 1) := gdX10_older_31.2.2.2.2.2.2.2.2.2.2.2.2.1
theorem dX10_older_52 : decode cX10_older 52 = .ok (.ireturn, 1) := gdX10_older_31.2.2.2.2.2.2.2.2.2.2.2.2.2.1
theorem dX10_older_53 : decode cX10_older 53 = .ok (.lload_n 3, 1) := gdX10_older_31.2.2.2.2.2.2.2.2.2.2.2.2.2.2.1
theorem dX10_older_54 : decode cX10_older 54 = .ok (.lconst 0, 1) := gdX10_older_31.2.2.2.2.2.2.2.2.2.2.2.2.2.2.2
theorem gdX10_older_55 : (decode cX10_older 55 = .ok (.lcmp, 1)) ∧ (decode cX10_older 56 = .ok (.ifCond .le 7, 3)) ∧ (decode cX10_older 59 = .ok (.iconst 1, 1)) ∧ (decode cX10_older 60 = .ok (.goto 4, 3)) ∧ (decode cX10_older 63 = .ok (.iconst (-1), 1)) ∧ (decode cX10_older 64 = .ok (.ireturn, 1)) := by decide +kernel
theorem dX10_older_55 : decode cX10_older 55 = .ok (.lcmp, 1) := gdX10_older_55.1
theorem dX10_older_56 : decode cX10_older 56 = .ok (.ifCond .le 7, 3) := gdX10_older_55.2.1
theorem dX10_older_59 : decode cX10_older 59 = .ok (.iconst 1, 1) := gdX10_older_55.2.2.1
theorem dX10_older_60 : decode cX10_older 60 = .ok (.goto 4, 3) := gdX10_older_55.2.2.2.1
theorem dX10_older_63 : decode cX10_older 63 = .ok (.iconst (-1), 1) := gdX10_older_55.2.2.2.2.1
theorem dX10_older_64 : decode cX10_older 64 = .ok (.ireturn, 1) := gdX10_older_55.2.2.2.2.2
theorem gdX10_go_0 : (decode cX10_go 0 = .ok (.aload_n 0, 1)) ∧ (decode cX10_go 1 = .ok (.iload_n 1, 1)) ∧ (decode cX10_go 2 = .ok (.invokevirtual 190, 3)) ∧ (decode cX10_go 5 = .ok (.ifCond .eq 23, 3)) ∧ (decode cX10_go 8 = .ok (.iload_n 2, 1)) ∧ (decode cX10_go 9 = .ok (.iconst 0, 1)) ∧ (decode cX10_go 10 = .ok (.aload_n 0, 1)) ∧ (decode cX10_go 11 = .ok (.getfield 19, 3)) ∧ (decode cX10_go 14 = .ok (.getfield 102, 3)) ∧ (decode cX10_go 17 = .ok (.getfield 151, 3)) ∧ (decode cX10_go 20 = .ok (.iconst 1, 1)) ∧ (decode cX10_go 21 = .ok (.isub, 1)) ∧ (decode cX10_go 22 = .ok (.invokestatic 91, 3)) ∧ (decode cX10_go 25 = .ok (.ifCond .ne 5, 3)) ∧ (decode cX10_go 28 = .ok (.iconst 0, 1)) ∧ (decode cX10_go 29 = .ok (.ireturn, 1)) := by decide +kernel
theorem dX10_go_0 : decode cX10_go 0 = .ok (.aload_n 0, 1) := gdX10_go_0.1
theorem dX10_go_1 : decode cX10_go 1 = .ok (.iload_n 1, 1) := gdX10_go_0.2.1
theorem dX10_go_2 : decode cX10_go 2 = .ok (.invokevirtual 190, 3) := gdX10_go_0.2.2.1
theorem dX10_go_5 : decode cX10_go 5 = .ok (.ifCond .eq 23, 3) := gdX10_go_0.2.2.2.1
theorem dX10_go_8 : decode cX10_go 8 = .ok (.iload_n 2, 1) := gdX10_go_0.2.2.2.2.1
theorem dX10_go_9 : decode cX10_go 9 = .ok (.iconst 0, 1) := gdX10_go_0.2.2.2.2.2.1
theorem dX10_go_10 : decode cX10_go 10 = .ok (.aload_n 0, 1) := gdX10_go_0.2.2.2.2.2.2.1
theorem dX10_go_11 : decode cX10_go 11 = .ok (.getfield 19, 3) := gdX10_go_0.2.2.2.2.2.2.2.1
theorem dX10_go_14 : decode cX10_go 14 = .ok (.getfield 102, 3) := gdX10_go_0.2.2.2.2.2.2.2.2.1
theorem dX10_go_17 : decode cX10_go 17 = .ok (.getfield 151, 3) := gdX10_go_0.2.2.2.2.2.2.2.2.2.1
theorem dX10_go_20 : decode cX10_go 20 = .ok (.iconst 1, 1) := gdX10_go_0.2.2.2.2.2.2.2.2.2.2.1
theorem dX10_go_21 : decode cX10_go 21 = .ok (.isub, 1) := gdX10_go_0.2.2.2.2.2.2.2.2.2.2.2.1
theorem dX10_go_22 : decode cX10_go 22 = .ok (.invokestatic 91, 3) := gdX10_go_0.2.2.2.2.2.2.2.2.2.2.2.2.1
theorem dX10_go_25 : decode cX10_go 25 = .ok (.ifCond .ne 5, 3) := gdX10_go_0.2.2.2.2.2.2.2.2.2.2.2.2.2.1
theorem dX10_go_28 : decode cX10_go 28 = .ok (.iconst 0, 1) := gdX10_go_0.2.2.2.2.2.2.2.2.2.2.2.2.2.2.1
theorem dX10_go_29 : decode cX10_go 29 = .ok (.ireturn, 1) := gdX10_go_0.2.2.2.2.2.2.2.2.2.2.2.2.2.2.2
theorem gdX10_go_30 : (decode cX10_go 30 = .ok (.aload_n 0, 1)) ∧ (decode cX10_go 31 = .ok (.getfield 19, 3)) ∧ (decode cX10_go 34 = .ok (.getfield 109, 3)) ∧ (decode cX10_go 37 = .ok (.aload_n 0, 1)) ∧ (decode cX10_go 38 = .ok (.getfield 19, 3)) ∧ (decode cX10_go 41 = .ok (.getfield 102, 3)) ∧ (decode cX10_go 44 = .ok (.iload_n 1, 1)) ∧ (decode cX10_go 45 = .ok (.iload_n 2, 1)) ∧ (decode cX10_go 46 = .ok (.invokevirtual 193, 3)) ∧ (decode cX10_go 49 = .ok (.ireturn, 1)) := by decide +kernel
theorem dX10_go_30 : decode cX10_go 30 = .ok (.aload_n 0, 1) := gdX10_go_30.1
theorem dX10_go_31 : decode cX10_go 31 = .ok (.getfield 19, 3) := gdX10_go_30.2.1
theorem dX10_go_34 : decode cX10_go 34 = .ok (.getfield 109, 3) := gdX10_go_30.2.2.1
theorem dX10_go_37 : decode cX10_go 37 = .ok (.aload_n 0, 1) := gdX10_go_30.2.2.2.1
theorem dX10_go_38 : decode cX10_go 38 = .ok (.getfield 19, 3) := gdX10_go_30.2.2.2.2.1
theorem dX10_go_41 : decode cX10_go 41 = .ok (.getfield 102, 3) := gdX10_go_30.2.2.2.2.2.1
theorem dX10_go_44 : decode cX10_go 44 = .ok (.iload_n 1, 1) := gdX10_go_30.2.2.2.2.2.2.1
theorem dX10_go_45 : decode cX10_go 45 = .ok (.iload_n 2, 1) := gdX10_go_30.2.2.2.2.2.2.2.1
theorem dX10_go_46 : decode cX10_go 46 = .ok (.invokevirtual 193, 3) := gdX10_go_30.2.2.2.2.2.2.2.2.1
theorem dX10_go_49 : decode cX10_go 49 = .ok (.ireturn, 1) := gdX10_go_30.2.2.2.2.2.2.2.2.2
theorem gdX10_tick_0 : (decode cX10_tick 0 = .ok (.aload_n 0, 1)) ∧ (decode cX10_tick 1 = .ok (.getfield 19, 3)) ∧ (decode cX10_tick 4 = .ok (.getfield 109, 3)) ∧ (decode cX10_tick 7 = .ok (.astore_n 3, 1)) ∧ (decode cX10_tick 8 = .ok (.aload_n 0, 1)) ∧ (decode cX10_tick 9 = .ok (.iload_n 1, 1)) ∧ (decode cX10_tick 10 = .ok (.invokevirtual 197, 3)) ∧ (decode cX10_tick 13 = .ok (.ifCond .eq 26, 3)) ∧ (decode cX10_tick 16 = .ok (.iload_n 2, 1)) ∧ (decode cX10_tick 17 = .ok (.iconst 1, 1)) ∧ (decode cX10_tick 18 = .ok (.sipush 200, 3)) ∧ (decode cX10_tick 21 = .ok (.invokestatic 91, 3)) ∧ (decode cX10_tick 24 = .ok (.ifCond .eq 15, 3)) ∧ (decode cX10_tick 27 = .ok (.aload_n 3, 1)) ∧ (decode cX10_tick 28 = .ok (.getfield 200, 3)) ∧ (decode cX10_tick 31 = .ok (.iload_n 2, 1)) := by decide +kernel
theorem dX10_tick_0 : decode cX10_tick 0 = .ok (.aload_n 0, 1) := gdX10_tick_0.1
theorem dX10_tick_1 : decode cX10_tick 1 = .ok (.getfield 19, 3) := gdX10_tick_0.2.1
theorem dX10_tick_4 : decode cX10_tick 4 = .ok (.getfield 109, 3) := gdX10_tick_0.2.2.1
theorem dX10_tick_7 : decode cX10_tick 7 = .ok (.astore_n 3, 1) := gdX10_tick_0.2.2.2.1
theorem dX10_tick_8 : decode cX10_tick 8 = .ok (.aload_n 0, 1) := gdX10_tick_0.2.2.2.2.1
theorem dX10_tick_9 : decode cX10_tick 9 = .ok (.iload_n 1, 1) := gdX10_tick_0.2.2.2.2.2.1
theorem dX10_tick_10 : decode cX10_tick 10 = .ok (.invokevirtual 197, 3) := gdX10_tick_0.2.2.2.2.2.2.1
theorem dX10_tick_13 : decode cX10_tick 13 = .ok (.ifCond .eq 26, 3) := gdX10_tick_0.2.2.2.2.2.2.2.1
theorem dX10_tick_16 : decode cX10_tick 16 = .ok (.iload_n 2, 1) := gdX10_tick_0.2.2.2.2.2.2.2.2.1
theorem dX10_tick_17 : decode cX10_tick 17 = .ok (.iconst 1, 1) := gdX10_tick_0.2.2.2.2.2.2.2.2.2.1
theorem dX10_tick_18 : decode cX10_tick 18 = .ok (.sipush 200, 3) := gdX10_tick_0.2.2.2.2.2.2.2.2.2.2.1
theorem dX10_tick_21 : decode cX10_tick 21 = .ok (.invokestatic 91, 3) := gdX10_tick_0.2.2.2.2.2.2.2.2.2.2.2.1
theorem dX10_tick_24 : decode cX10_tick 24 = .ok (.ifCond .eq 15, 3) := gdX10_tick_0.2.2.2.2.2.2.2.2.2.2.2.2.1
theorem dX10_tick_27 : decode cX10_tick 27 = .ok (.aload_n 3, 1) := gdX10_tick_0.2.2.2.2.2.2.2.2.2.2.2.2.2.1
theorem dX10_tick_28 : decode cX10_tick 28 = .ok (.getfield 200, 3) := gdX10_tick_0.2.2.2.2.2.2.2.2.2.2.2.2.2.2.1
theorem dX10_tick_31 : decode cX10_tick 31 = .ok (.iload_n 2, 1) := gdX10_tick_0.2.2.2.2.2.2.2.2.2.2.2.2.2.2.2
theorem gdX10_tick_32 : (decode cX10_tick 32 = .ok (.iadd, 1)) ∧ (decode cX10_tick 33 = .ok (.sipush 9999, 3)) ∧ (decode cX10_tick 36 = .ok (.if_icmp .le 5, 3)) ∧ (decode cX10_tick 39 = .ok (.iconst (-1), 1)) ∧ (decode cX10_tick 40 = .ok (.ireturn, 1)) ∧ (decode cX10_tick 41 = .ok (.aload_n 3, 1)) ∧ (decode cX10_tick 42 = .ok (.aload_n 0, 1)) ∧ (decode cX10_tick 43 = .ok (.getfield 19, 3)) ∧ (decode cX10_tick 46 = .ok (.getfield 102, 3)) ∧ (decode cX10_tick 49 = .ok (.aload_n 0, 1)) ∧ (decode cX10_tick 50 = .ok (.iload_n 1, 1)) ∧ (decode cX10_tick 51 = .ok (.invokevirtual 203, 3)) ∧ (decode cX10_tick 54 = .ok (.iload_n 2, 1)) ∧ (decode cX10_tick 55 = .ok (.invokevirtual 207, 3)) ∧ (decode cX10_tick 58 = .ok (.aload_n 3, 1)) ∧ (decode cX10_tick 59 = .ok (.getfield 200, 3)) := by decide +kernel
theorem dX10_tick_32 : decode cX10_tick 32 = .ok (.iadd, 1) := gdX10_tick_32.1
theorem dX10_tick_33 : decode cX10_tick 33 = .ok (.sipush 9999, 3) := gdX10_tick_32.2.1
theorem dX10_tick_36 : decode cX10_tick 36 = .ok (.if_icmp .le 5, 3) := gdX10_tick_32.2.2.1
theorem dX10_tick_39 : decode cX10_tick 39 = .ok (.iconst (-1), 1) := gdX10_tick_32.2.2.2.1
theorem dX10_tick_40 : decode cX10_tick 40 = .ok (.ireturn, 1) := gdX10_tick_32.2.2.2.2.1
theorem dX10_tick_41 : decode cX10_tick 41 = .ok (.aload_n 3, 1) := gdX10_tick_32.2.2.2.2.2.1
theorem dX10_tick_42 : decode cX10_tick 42 = .ok (.aload_n 0, 1) := gdX10_tick_32.2.2.2.2.2.2.1
theorem dX10_tick_43 : decode cX10_tick 43 = .ok (.getfield 19, 3) := gdX10_tick_32.2.2.2.2.2.2.2.1
theorem dX10_tick_46 : decode cX10_tick 46 = .ok (.getfield 102, 3) := gdX10_tick_32.2.2.2.2.2.2.2.2.1
theorem dX10_tick_49 : decode cX10_tick 49 = .ok (.aload_n 0, 1) := gdX10_tick_32.2.2.2.2.2.2.2.2.2.1
theorem dX10_tick_50 : decode cX10_tick 50 = .ok (.iload_n 1, 1) := gdX10_tick_32.2.2.2.2.2.2.2.2.2.2.1
theorem dX10_tick_51 : decode cX10_tick 51 = .ok (.invokevirtual 203, 3) := gdX10_tick_32.2.2.2.2.2.2.2.2.2.2.2.1
theorem dX10_tick_54 : decode cX10_tick 54 = .ok (.iload_n 2, 1) := gdX10_tick_32.2.2.2.2.2.2.2.2.2.2.2.2.1
theorem dX10_tick_55 : decode cX10_tick 55 = .ok (.invokevirtual 207, 3) := gdX10_tick_32.2.2.2.2.2.2.2.2.2.2.2.2.2.1
theorem dX10_tick_58 : decode cX10_tick 58 = .ok (.aload_n 3, 1) := gdX10_tick_32.2.2.2.2.2.2.2.2.2.2.2.2.2.2.1
theorem dX10_tick_59 : decode cX10_tick 59 = .ok (.getfield 200, 3) := gdX10_tick_32.2.2.2.2.2.2.2.2.2.2.2.2.2.2.2
theorem dX10_tick_62 : decode cX10_tick 62 = .ok (.ireturn, 1) := by decide +kernel
theorem gdX10_ahead_0 : (decode cX10_ahead 0 = .ok (.iload_n 1, 1)) ∧ (decode cX10_ahead 1 = .ok (.iconst 0, 1)) ∧ (decode cX10_ahead 2 = .ok (.aload_n 0, 1)) ∧ (decode cX10_ahead 3 = .ok (.getfield 79, 3)) ∧ (decode cX10_ahead 6 = .ok (.iconst 1, 1)) ∧ (decode cX10_ahead 7 = .ok (.isub, 1)) ∧ (decode cX10_ahead 8 = .ok (.invokestatic 91, 3)) ∧ (decode cX10_ahead 11 = .ok (.ifCond .eq 14, 3)) ∧ (decode cX10_ahead 14 = .ok (.iload_n 2, 1)) ∧ (decode cX10_ahead 15 = .ok (.iconst 0, 1)) ∧ (decode cX10_ahead 16 = .ok (.sipush 200, 3)) ∧ (decode cX10_ahead 19 = .ok (.invokestatic 91, 3)) ∧ (decode cX10_ahead 22 = .ok (.ifCond .ne 7, 3)) ∧ (decode cX10_ahead 25 = .ok (.ldc2_w 185, 3)) ∧ (decode cX10_ahead 28 = .ok (.lreturn, 1)) ∧ (decode cX10_ahead 29 = .ok (.aload_n 0, 1)) := by decide +kernel
theorem dX10_ahead_0 : decode cX10_ahead 0 = .ok (.iload_n 1, 1) := gdX10_ahead_0.1
theorem dX10_ahead_1 : decode cX10_ahead 1 = .ok (.iconst 0, 1) := gdX10_ahead_0.2.1
theorem dX10_ahead_2 : decode cX10_ahead 2 = .ok (.aload_n 0, 1) := gdX10_ahead_0.2.2.1
theorem dX10_ahead_3 : decode cX10_ahead 3 = .ok (.getfield 79, 3) := gdX10_ahead_0.2.2.2.1
theorem dX10_ahead_6 : decode cX10_ahead 6 = .ok (.iconst 1, 1) := gdX10_ahead_0.2.2.2.2.1
theorem dX10_ahead_7 : decode cX10_ahead 7 = .ok (.isub, 1) := gdX10_ahead_0.2.2.2.2.2.1
theorem dX10_ahead_8 : decode cX10_ahead 8 = .ok (.invokestatic 91, 3) := gdX10_ahead_0.2.2.2.2.2.2.1
theorem dX10_ahead_11 : decode cX10_ahead 11 = .ok (.ifCond .eq 14, 3) := gdX10_ahead_0.2.2.2.2.2.2.2.1
theorem dX10_ahead_14 : decode cX10_ahead 14 = .ok (.iload_n 2, 1) := gdX10_ahead_0.2.2.2.2.2.2.2.2.1
theorem dX10_ahead_15 : decode cX10_ahead 15 = .ok (.iconst 0, 1) := gdX10_ahead_0.2.2.2.2.2.2.2.2.2.1
theorem dX10_ahead_16 : decode cX10_ahead 16 = .ok (.sipush 200, 3) := gdX10_ahead_0.2.2.2.2.2.2.2.2.2.2.1
theorem dX10_ahead_19 : decode cX10_ahead 19 = .ok (.invokestatic 91, 3) := gdX10_ahead_0.2.2.2.2.2.2.2.2.2.2.2.1
theorem dX10_ahead_22 : decode cX10_ahead 22 = .ok (.ifCond .ne 7, 3) := gdX10_ahead_0.2.2.2.2.2.2.2.2.2.2.2.2.1
theorem dX10_ahead_25 : decode cX10_ahead 25 = .ok (.ldc2_w 185, 3) := gdX10_ahead_0.2.2.2.2.2.2.2.2.2.2.2.2.2.1
theorem dX10_ahead_28 : decode cX10_ahead 28 = .ok (.lreturn, 1) := gdX10_ahead_0.2.2.2.2.2.2.2.2.2.2.2.2.2.2.1
theorem dX10_ahead_29 : decode cX10_ahead 29 = .ok (.aload_n 0, 1) := gdX10_ahead_0.2.2.2.2.2.2.2.2.2.2.2.2.2.2.2
theorem gdX10_ahead_30 : (decode cX10_ahead 30 = .ok (.iload_n 3, 1)) ∧ (decode cX10_ahead 31 = .ok (.invokevirtual 167, 3)) ∧ (decode cX10_ahead 34 = .ok (.ifCond .eq 13, 3)) ∧ (decode cX10_ahead 37 = .ok (.iload 4, 2)) ∧ (decode cX10_ahead 39 = .ok (.iconst 0, 1)) ∧ (decode cX10_ahead 40 = .ok (.iconst 3, 1)) ∧ (decode cX10_ahead 41 = .ok (.invokestatic 91, 3)) ∧ (decode cX10_ahead 44 = .ok (.ifCond .ne 7, 3)) ∧ (decode cX10_ahead 47 = .ok (.ldc2_w 185, 3)) ∧ (decode cX10_ahead 50 = .ok (.lreturn, 1)) ∧ (decode cX10_ahead 51 = .ok (.aload_n 0, 1)) ∧ (decode cX10_ahead 52 = .ok (.iload_n 1, 1)) ∧ (decode cX10_ahead 53 = .ok (.iload_n 2, 1)) ∧ (decode cX10_ahead 54 = .ok (.invokevirtual 211, 3)) ∧ (decode cX10_ahead 57 = .ok (.iload 4, 2)) ∧ (decode cX10_ahead 59 = .ok (.ifCond .ne 31, 3)) := by decide +kernel
theorem dX10_ahead_30 : decode cX10_ahead 30 = .ok (.iload_n 3, 1) := gdX10_ahead_30.1
theorem dX10_ahead_31 : decode cX10_ahead 31 = .ok (.invokevirtual 167, 3) := gdX10_ahead_30.2.1
theorem dX10_ahead_34 : decode cX10_ahead 34 = .ok (.ifCond .eq 13, 3) := gdX10_ahead_30.2.2.1
theorem dX10_ahead_37 : decode cX10_ahead 37 = .ok (.iload 4, 2) := gdX10_ahead_30.2.2.2.1
theorem dX10_ahead_39 : decode cX10_ahead 39 = .ok (.iconst 0, 1) := gdX10_ahead_30.2.2.2.2.1
theorem dX10_ahead_40 : decode cX10_ahead 40 = .ok (.iconst 3, 1) := gdX10_ahead_30.2.2.2.2.2.1
theorem dX10_ahead_41 : decode cX10_ahead 41 = .ok (.invokestatic 91, 3) := gdX10_ahead_30.2.2.2.2.2.2.1
theorem dX10_ahead_44 : decode cX10_ahead 44 = .ok (.ifCond .ne 7, 3) := gdX10_ahead_30.2.2.2.2.2.2.2.1
theorem dX10_ahead_47 : decode cX10_ahead 47 = .ok (.ldc2_w 185, 3) := gdX10_ahead_30.2.2.2.2.2.2.2.2.1
theorem dX10_ahead_50 : decode cX10_ahead 50 = .ok (.lreturn, 1) := gdX10_ahead_30.2.2.2.2.2.2.2.2.2.1
theorem dX10_ahead_51 : decode cX10_ahead 51 = .ok (.aload_n 0, 1) := gdX10_ahead_30.2.2.2.2.2.2.2.2.2.2.1
theorem dX10_ahead_52 : decode cX10_ahead 52 = .ok (.iload_n 1, 1) := gdX10_ahead_30.2.2.2.2.2.2.2.2.2.2.2.1
theorem dX10_ahead_53 : decode cX10_ahead 53 = .ok (.iload_n 2, 1) := gdX10_ahead_30.2.2.2.2.2.2.2.2.2.2.2.2.1
theorem dX10_ahead_54 : decode cX10_ahead 54 = .ok (.invokevirtual 211, 3) := gdX10_ahead_30.2.2.2.2.2.2.2.2.2.2.2.2.2.1
theorem dX10_ahead_57 : decode cX10_ahead 57 = .ok (.iload 4, 2) := gdX10_ahead_30.2.2.2.2.2.2.2.2.2.2.2.2.2.2.1
theorem dX10_ahead_59 : decode cX10_ahead 59 = .ok (.ifCond .ne 31, 3) := gdX10_ahead_30.2.2.2.2.2.2.2.2.2.2.2.2.2.2.2
theorem gdX10_ahead_62 : (decode cX10_ahead 62 = .ok (.aload_n 0, 1)) ∧ (decode cX10_ahead 63 = .ok (.getfield 43, 3)) ∧ (decode cX10_ahead 66 = .ok (.iload_n 3, 1)) ∧ (decode cX10_ahead 67 = .ok (.invokevirtual 215, 3)) ∧ (decode cX10_ahead 70 = .ok (.ifCond .eq 16, 3)) ∧ (decode cX10_ahead 73 = .ok (.aload_n 0, 1)) ∧ (decode cX10_ahead 74 = .ok (.getfield 43, 3)) ∧ (decode cX10_ahead 77 = .ok (.getfield 170, 3)) ∧ (decode cX10_ahead 80 = .ok (.iload_n 3, 1)) ∧ (decode cX10_ahead 81 = .ok (.iaload, 1)) ∧ (decode cX10_ahead 82 = .ok (.i2l, 1)) ∧ (decode cX10_ahead 83 = .ok (.goto 6, 3)) ∧ (decode cX10_ahead 86 = .ok (.ldc2_w 216, 3)) ∧ (decode cX10_ahead 89 = .ok (.lreturn, 1)) ∧ (decode cX10_ahead 90 = .ok (.iload 4, 2)) ∧ (decode cX10_ahead 92 = .ok (.iconst 3, 1)) := by decide +kernel
theorem dX10_ahead_62 : decode cX10_ahead 62 = .ok (.aload_n 0, 1) := gdX10_ahead_62.1
theorem dX10_ahead_63 : decode cX10_ahead 63 = .ok (.getfield 43, 3) := gdX10_ahead_62.2.1
theorem dX10_ahead_66 : decode cX10_ahead 66 = .ok (.iload_n 3, 1) := gdX10_ahead_62.2.2.1
theorem dX10_ahead_67 : decode cX10_ahead 67 = .ok (.invokevirtual 215, 3) := gdX10_ahead_62.2.2.2.1
theorem dX10_ahead_70 : decode cX10_ahead 70 = .ok (.ifCond .eq 16, 3) := gdX10_ahead_62.2.2.2.2.1
theorem dX10_ahead_73 : decode cX10_ahead 73 = .ok (.aload_n 0, 1) := gdX10_ahead_62.2.2.2.2.2.1
theorem dX10_ahead_74 : decode cX10_ahead 74 = .ok (.getfield 43, 3) := gdX10_ahead_62.2.2.2.2.2.2.1
theorem dX10_ahead_77 : decode cX10_ahead 77 = .ok (.getfield 170, 3) := gdX10_ahead_62.2.2.2.2.2.2.2.1
theorem dX10_ahead_80 : decode cX10_ahead 80 = .ok (.iload_n 3, 1) := gdX10_ahead_62.2.2.2.2.2.2.2.2.1
theorem dX10_ahead_81 : decode cX10_ahead 81 = .ok (.iaload, 1) := gdX10_ahead_62.2.2.2.2.2.2.2.2.2.1
theorem dX10_ahead_82 : decode cX10_ahead 82 = .ok (.i2l, 1) := gdX10_ahead_62.2.2.2.2.2.2.2.2.2.2.1
theorem dX10_ahead_83 : decode cX10_ahead 83 = .ok (.goto 6, 3) := gdX10_ahead_62.2.2.2.2.2.2.2.2.2.2.2.1
theorem dX10_ahead_86 : decode cX10_ahead 86 = .ok (.ldc2_w 216, 3) := gdX10_ahead_62.2.2.2.2.2.2.2.2.2.2.2.2.1
theorem dX10_ahead_89 : decode cX10_ahead 89 = .ok (.lreturn, 1) := gdX10_ahead_62.2.2.2.2.2.2.2.2.2.2.2.2.2.1
theorem dX10_ahead_90 : decode cX10_ahead 90 = .ok (.iload 4, 2) := gdX10_ahead_62.2.2.2.2.2.2.2.2.2.2.2.2.2.2.1
theorem dX10_ahead_92 : decode cX10_ahead 92 = .ok (.iconst 3, 1) := gdX10_ahead_62.2.2.2.2.2.2.2.2.2.2.2.2.2.2.2
theorem gdX10_ahead_93 : (decode cX10_ahead 93 = .ok (.if_icmp .ne 12, 3)) ∧ (decode cX10_ahead 96 = .ok (.aload_n 0, 1)) ∧ (decode cX10_ahead 97 = .ok (.getfield 43, 3)) ∧ (decode cX10_ahead 100 = .ok (.invokevirtual 218, 3)) ∧ (decode cX10_ahead 103 = .ok (.i2l, 1)) ∧ (decode cX10_ahead 104 = .ok (.lreturn, 1)) ∧ (decode cX10_ahead 105 = .ok (.aload_n 0, 1)) ∧ (decode cX10_ahead 106 = .ok (.getfield 43, 3)) ∧ (decode cX10_ahead 109 = .ok (.getfield 187, 3)) ∧ (decode cX10_ahead 112 = .ok (.iload_n 3, 1)) ∧ (decode cX10_ahead 113 = .ok (.laload, 1)) ∧ (decode cX10_ahead 114 = .ok (.ldc2_w 145, 3)) ∧ (decode cX10_ahead 117 = .ok (.iload 4, 2)) ∧ (decode cX10_ahead 119 = .ok (.iconst 1, 1)) ∧ (decode cX10_ahead 120 = .ok (.isub, 1)) ∧ (decode cX10_ahead 121 = .ok (.invokestatic 147, 3)) := by decide +kernel
theorem dX10_ahead_93 : decode cX10_ahead 93 = .ok (.if_icmp .ne 12, 3) := gdX10_ahead_93.1
theorem dX10_ahead_96 : decode cX10_ahead 96 = .ok (.aload_n 0, 1) := gdX10_ahead_93.2.1
theorem dX10_ahead_97 : decode cX10_ahead 97 = .ok (.getfield 43, 3) := gdX10_ahead_93.2.2.1
theorem dX10_ahead_100 : decode cX10_ahead 100 = .ok (.invokevirtual 218, 3) := gdX10_ahead_93.2.2.2.1
theorem dX10_ahead_103 : decode cX10_ahead 103 = .ok (.i2l, 1) := gdX10_ahead_93.2.2.2.2.1
theorem dX10_ahead_104 : decode cX10_ahead 104 = .ok (.lreturn, 1) := gdX10_ahead_93.2.2.2.2.2.1
theorem dX10_ahead_105 : decode cX10_ahead 105 = .ok (.aload_n 0, 1) := gdX10_ahead_93.2.2.2.2.2.2.1
theorem dX10_ahead_106 : decode cX10_ahead 106 = .ok (.getfield 43, 3) := gdX10_ahead_93.2.2.2.2.2.2.2.1
theorem dX10_ahead_109 : decode cX10_ahead 109 = .ok (.getfield 187, 3) := gdX10_ahead_93.2.2.2.2.2.2.2.2.1
theorem dX10_ahead_112 : decode cX10_ahead 112 = .ok (.iload_n 3, 1) := gdX10_ahead_93.2.2.2.2.2.2.2.2.2.1
theorem dX10_ahead_113 : decode cX10_ahead 113 = .ok (.laload, 1) := gdX10_ahead_93.2.2.2.2.2.2.2.2.2.2.1
theorem dX10_ahead_114 : decode cX10_ahead 114 = .ok (.ldc2_w 145, 3) := gdX10_ahead_93.2.2.2.2.2.2.2.2.2.2.2.1
theorem dX10_ahead_117 : decode cX10_ahead 117 = .ok (.iload 4, 2) := gdX10_ahead_93.2.2.2.2.2.2.2.2.2.2.2.2.1
theorem dX10_ahead_119 : decode cX10_ahead 119 = .ok (.iconst 1, 1) := gdX10_ahead_93.2.2.2.2.2.2.2.2.2.2.2.2.2.1
theorem dX10_ahead_120 : decode cX10_ahead 120 = .ok (.isub, 1) := gdX10_ahead_93.2.2.2.2.2.2.2.2.2.2.2.2.2.2.1
theorem dX10_ahead_121 : decode cX10_ahead 121 = .ok (.invokestatic 147, 3) := gdX10_ahead_93.2.2.2.2.2.2.2.2.2.2.2.2.2.2.2
theorem dX10_ahead_124 : decode cX10_ahead 124 = .ok (.lreturn, 1) := by decide +kernel
theorem gdX10_far_0 : (decode cX10_far 0 = .ok (.aload_n 0, 1)) ∧ (decode cX10_far 1 = .ok (.iload_n 1, 1)) ∧ (decode cX10_far 2 = .ok (.invokevirtual 133, 3)) ∧ (decode cX10_far 5 = .ok (.ifCond .eq 11, 3)) ∧ (decode cX10_far 8 = .ok (.aload_n 0, 1)) ∧ (decode cX10_far 9 = .ok (.iload_n 2, 1)) ∧ (decode cX10_far 10 = .ok (.invokevirtual 133, 3)) ∧ (decode cX10_far 13 = .ok (.ifCond .ne 5, 3)) ∧ (decode cX10_far 16 = .ok (.iconst (-1), 1)) ∧ (decode cX10_far 17 = .ok (.ireturn, 1)) ∧ (decode cX10_far 18 = .ok (.aload_n 0, 1)) ∧ (decode cX10_far 19 = .ok (.getfield 19, 3)) ∧ (decode cX10_far 22 = .ok (.getfield 102, 3)) ∧ (decode cX10_far 25 = .ok (.iload_n 1, 1)) ∧ (decode cX10_far 26 = .ok (.iload_n 2, 1)) ∧ (decode cX10_far 27 = .ok (.invokevirtual 222, 3)) := by decide +kernel
theorem dX10_far_0 : decode cX10_far 0 = .ok (.aload_n 0, 1) := gdX10_far_0.1
theorem dX10_far_1 : decode cX10_far 1 = .ok (.iload_n 1, 1) := gdX10_far_0.2.1
theorem dX10_far_2 : decode cX10_far 2 = .ok (.invokevirtual 133, 3) := gdX10_far_0.2.2.1
theorem dX10_far_5 : decode cX10_far 5 = .ok (.ifCond .eq 11, 3) := gdX10_far_0.2.2.2.1
theorem dX10_far_8 : decode cX10_far 8 = .ok (.aload_n 0, 1) := gdX10_far_0.2.2.2.2.1
theorem dX10_far_9 : decode cX10_far 9 = .ok (.iload_n 2, 1) := gdX10_far_0.2.2.2.2.2.1
theorem dX10_far_10 : decode cX10_far 10 = .ok (.invokevirtual 133, 3) := gdX10_far_0.2.2.2.2.2.2.1
theorem dX10_far_13 : decode cX10_far 13 = .ok (.ifCond .ne 5, 3) := gdX10_far_0.2.2.2.2.2.2.2.1
theorem dX10_far_16 : decode cX10_far 16 = .ok (.iconst (-1), 1) := gdX10_far_0.2.2.2.2.2.2.2.2.1
theorem dX10_far_17 : decode cX10_far 17 = .ok (.ireturn, 1) := gdX10_far_0.2.2.2.2.2.2.2.2.2.1
theorem dX10_far_18 : decode cX10_far 18 = .ok (.aload_n 0, 1) := gdX10_far_0.2.2.2.2.2.2.2.2.2.2.1
theorem dX10_far_19 : decode cX10_far 19 = .ok (.getfield 19, 3) := gdX10_far_0.2.2.2.2.2.2.2.2.2.2.2.1
theorem dX10_far_22 : decode cX10_far 22 = .ok (.getfield 102, 3) := gdX10_far_0.2.2.2.2.2.2.2.2.2.2.2.2.1
theorem dX10_far_25 : decode cX10_far 25 = .ok (.iload_n 1, 1) := gdX10_far_0.2.2.2.2.2.2.2.2.2.2.2.2.2.1
theorem dX10_far_26 : decode cX10_far 26 = .ok (.iload_n 2, 1) := gdX10_far_0.2.2.2.2.2.2.2.2.2.2.2.2.2.2.1
theorem dX10_far_27 : decode cX10_far 27 = .ok (.invokevirtual 222, 3) := gdX10_far_0.2.2.2.2.2.2.2.2.2.2.2.2.2.2.2
theorem gdX10_far_30 : (decode cX10_far 30 = .ok (.istore_n 3, 1)) ∧ (decode cX10_far 31 = .ok (.iload_n 3, 1)) ∧ (decode cX10_far 32 = .ok (.ifCond .ge 8, 3)) ∧ (decode cX10_far 35 = .ok (.bipush (-2), 2)) ∧ (decode cX10_far 37 = .ok (.goto 4, 3)) ∧ (decode cX10_far 40 = .ok (.iload_n 3, 1)) ∧ (decode cX10_far 41 = .ok (.ireturn, 1)) := by decide +kernel
theorem dX10_far_30 : decode cX10_far 30 = .ok (.istore_n 3, 1) := gdX10_far_30.1
theorem dX10_far_31 : decode cX10_far 31 = .ok (.iload_n 3, 1) := gdX10_far_30.2.1
theorem dX10_far_32 : decode cX10_far 32 = .ok (.ifCond .ge 8, 3) := gdX10_far_30.2.2.1
theorem dX10_far_35 : decode cX10_far 35 = .ok (.bipush (-2), 2) := gdX10_far_30.2.2.2.1
theorem dX10_far_37 : decode cX10_far 37 = .ok (.goto 4, 3) := gdX10_far_30.2.2.2.2.1
theorem dX10_far_40 : decode cX10_far 40 = .ok (.iload_n 3, 1) := gdX10_far_30.2.2.2.2.2.1
theorem dX10_far_41 : decode cX10_far 41 = .ok (.ireturn, 1) := gdX10_far_30.2.2.2.2.2.2
theorem gdX10_next_0 : (decode cX10_next 0 = .ok (.aload_n 0, 1)) ∧ (decode cX10_next 1 = .ok (.iload_n 1, 1)) ∧ (decode cX10_next 2 = .ok (.invokevirtual 133, 3)) ∧ (decode cX10_next 5 = .ok (.ifCond .eq 11, 3)) ∧ (decode cX10_next 8 = .ok (.aload_n 0, 1)) ∧ (decode cX10_next 9 = .ok (.iload_n 2, 1)) ∧ (decode cX10_next 10 = .ok (.invokevirtual 133, 3)) ∧ (decode cX10_next 13 = .ok (.ifCond .ne 5, 3)) ∧ (decode cX10_next 16 = .ok (.iconst (-1), 1)) ∧ (decode cX10_next 17 = .ok (.ireturn, 1)) ∧ (decode cX10_next 18 = .ok (.aload_n 0, 1)) ∧ (decode cX10_next 19 = .ok (.getfield 19, 3)) ∧ (decode cX10_next 22 = .ok (.getfield 102, 3)) ∧ (decode cX10_next 25 = .ok (.iload_n 1, 1)) ∧ (decode cX10_next 26 = .ok (.iload_n 2, 1)) ∧ (decode cX10_next 27 = .ok (.invokevirtual 226, 3)) := by decide +kernel
theorem dX10_next_0 : decode cX10_next 0 = .ok (.aload_n 0, 1) := gdX10_next_0.1
theorem dX10_next_1 : decode cX10_next 1 = .ok (.iload_n 1, 1) := gdX10_next_0.2.1
theorem dX10_next_2 : decode cX10_next 2 = .ok (.invokevirtual 133, 3) := gdX10_next_0.2.2.1
theorem dX10_next_5 : decode cX10_next 5 = .ok (.ifCond .eq 11, 3) := gdX10_next_0.2.2.2.1
theorem dX10_next_8 : decode cX10_next 8 = .ok (.aload_n 0, 1) := gdX10_next_0.2.2.2.2.1
theorem dX10_next_9 : decode cX10_next 9 = .ok (.iload_n 2, 1) := gdX10_next_0.2.2.2.2.2.1
theorem dX10_next_10 : decode cX10_next 10 = .ok (.invokevirtual 133, 3) := gdX10_next_0.2.2.2.2.2.2.1
theorem dX10_next_13 : decode cX10_next 13 = .ok (.ifCond .ne 5, 3) := gdX10_next_0.2.2.2.2.2.2.2.1
theorem dX10_next_16 : decode cX10_next 16 = .ok (.iconst (-1), 1) := gdX10_next_0.2.2.2.2.2.2.2.2.1
theorem dX10_next_17 : decode cX10_next 17 = .ok (.ireturn, 1) := gdX10_next_0.2.2.2.2.2.2.2.2.2.1
theorem dX10_next_18 : decode cX10_next 18 = .ok (.aload_n 0, 1) := gdX10_next_0.2.2.2.2.2.2.2.2.2.2.1
theorem dX10_next_19 : decode cX10_next 19 = .ok (.getfield 19, 3) := gdX10_next_0.2.2.2.2.2.2.2.2.2.2.2.1
theorem dX10_next_22 : decode cX10_next 22 = .ok (.getfield 102, 3) := gdX10_next_0.2.2.2.2.2.2.2.2.2.2.2.2.1
theorem dX10_next_25 : decode cX10_next 25 = .ok (.iload_n 1, 1) := gdX10_next_0.2.2.2.2.2.2.2.2.2.2.2.2.2.1
theorem dX10_next_26 : decode cX10_next 26 = .ok (.iload_n 2, 1) := gdX10_next_0.2.2.2.2.2.2.2.2.2.2.2.2.2.2.1
theorem dX10_next_27 : decode cX10_next 27 = .ok (.invokevirtual 226, 3) := gdX10_next_0.2.2.2.2.2.2.2.2.2.2.2.2.2.2.2
theorem gdX10_next_30 : (decode cX10_next 30 = .ok (.istore_n 3, 1)) ∧ (decode cX10_next 31 = .ok (.iload_n 3, 1)) ∧ (decode cX10_next 32 = .ok (.ifCond .ge 8, 3)) ∧ (decode cX10_next 35 = .ok (.bipush (-2), 2)) ∧ (decode cX10_next 37 = .ok (.goto 4, 3)) ∧ (decode cX10_next 40 = .ok (.iload_n 3, 1)) ∧ (decode cX10_next 41 = .ok (.ireturn, 1)) := by decide +kernel
theorem dX10_next_30 : decode cX10_next 30 = .ok (.istore_n 3, 1) := gdX10_next_30.1
theorem dX10_next_31 : decode cX10_next 31 = .ok (.iload_n 3, 1) := gdX10_next_30.2.1
theorem dX10_next_32 : decode cX10_next 32 = .ok (.ifCond .ge 8, 3) := gdX10_next_30.2.2.1
theorem dX10_next_35 : decode cX10_next 35 = .ok (.bipush (-2), 2) := gdX10_next_30.2.2.2.1
theorem dX10_next_37 : decode cX10_next 37 = .ok (.goto 4, 3) := gdX10_next_30.2.2.2.2.1
theorem dX10_next_40 : decode cX10_next 40 = .ok (.iload_n 3, 1) := gdX10_next_30.2.2.2.2.2.1
theorem dX10_next_41 : decode cX10_next 41 = .ok (.ireturn, 1) := gdX10_next_30.2.2.2.2.2.2
theorem gdX10_clock_0 : (decode cX10_clock 0 = .ok (.aload_n 0, 1)) ∧ (decode cX10_clock 1 = .ok (.iload_n 1, 1)) ∧ (decode cX10_clock 2 = .ok (.invokevirtual 133, 3)) ∧ (decode cX10_clock 5 = .ok (.ifCond .eq 17, 3)) ∧ (decode cX10_clock 8 = .ok (.iload_n 2, 1)) ∧ (decode cX10_clock 9 = .ok (.invokestatic 229, 3)) ∧ (decode cX10_clock 12 = .ok (.ifCond .eq 10, 3)) ∧ (decode cX10_clock 15 = .ok (.iload_n 3, 1)) ∧ (decode cX10_clock 16 = .ok (.invokestatic 182, 3)) ∧ (decode cX10_clock 19 = .ok (.ifCond .ne 7, 3)) ∧ (decode cX10_clock 22 = .ok (.ldc2_w 185, 3)) ∧ (decode cX10_clock 25 = .ok (.lreturn, 1)) ∧ (decode cX10_clock 26 = .ok (.aload_n 0, 1)) ∧ (decode cX10_clock 27 = .ok (.getfield 19, 3)) ∧ (decode cX10_clock 30 = .ok (.getfield 102, 3)) ∧ (decode cX10_clock 33 = .ok (.iload_n 1, 1)) := by decide +kernel
theorem dX10_clock_0 : decode cX10_clock 0 = .ok (.aload_n 0, 1) := gdX10_clock_0.1
theorem dX10_clock_1 : decode cX10_clock 1 = .ok (.iload_n 1, 1) := gdX10_clock_0.2.1
theorem dX10_clock_2 : decode cX10_clock 2 = .ok (.invokevirtual 133, 3) := gdX10_clock_0.2.2.1
theorem dX10_clock_5 : decode cX10_clock 5 = .ok (.ifCond .eq 17, 3) := gdX10_clock_0.2.2.2.1
theorem dX10_clock_8 : decode cX10_clock 8 = .ok (.iload_n 2, 1) := gdX10_clock_0.2.2.2.2.1
theorem dX10_clock_9 : decode cX10_clock 9 = .ok (.invokestatic 229, 3) := gdX10_clock_0.2.2.2.2.2.1
theorem dX10_clock_12 : decode cX10_clock 12 = .ok (.ifCond .eq 10, 3) := gdX10_clock_0.2.2.2.2.2.2.1
theorem dX10_clock_15 : decode cX10_clock 15 = .ok (.iload_n 3, 1) := gdX10_clock_0.2.2.2.2.2.2.2.1
theorem dX10_clock_16 : decode cX10_clock 16 = .ok (.invokestatic 182, 3) := gdX10_clock_0.2.2.2.2.2.2.2.2.1
theorem dX10_clock_19 : decode cX10_clock 19 = .ok (.ifCond .ne 7, 3) := gdX10_clock_0.2.2.2.2.2.2.2.2.2.1
theorem dX10_clock_22 : decode cX10_clock 22 = .ok (.ldc2_w 185, 3) := gdX10_clock_0.2.2.2.2.2.2.2.2.2.2.1
theorem dX10_clock_25 : decode cX10_clock 25 = .ok (.lreturn, 1) := gdX10_clock_0.2.2.2.2.2.2.2.2.2.2.2.1
theorem dX10_clock_26 : decode cX10_clock 26 = .ok (.aload_n 0, 1) := gdX10_clock_0.2.2.2.2.2.2.2.2.2.2.2.2.1
theorem dX10_clock_27 : decode cX10_clock 27 = .ok (.getfield 19, 3) := gdX10_clock_0.2.2.2.2.2.2.2.2.2.2.2.2.2.1
theorem dX10_clock_30 : decode cX10_clock 30 = .ok (.getfield 102, 3) := gdX10_clock_0.2.2.2.2.2.2.2.2.2.2.2.2.2.2.1
theorem dX10_clock_33 : decode cX10_clock 33 = .ok (.iload_n 1, 1) := gdX10_clock_0.2.2.2.2.2.2.2.2.2.2.2.2.2.2.2
theorem gdX10_clock_34 : (decode cX10_clock 34 = .ok (.iload_n 2, 1)) ∧ (decode cX10_clock 35 = .ok (.invokevirtual 232, 3)) ∧ (decode cX10_clock 38 = .ok (.ldc2_w 145, 3)) ∧ (decode cX10_clock 41 = .ok (.iload_n 3, 1)) ∧ (decode cX10_clock 42 = .ok (.invokestatic 147, 3)) ∧ (decode cX10_clock 45 = .ok (.lreturn, 1)) := by decide +kernel
theorem dX10_clock_34 : decode cX10_clock 34 = .ok (.iload_n 2, 1) := gdX10_clock_34.1
theorem dX10_clock_35 : decode cX10_clock 35 = .ok (.invokevirtual 232, 3) := gdX10_clock_34.2.1
theorem dX10_clock_38 : decode cX10_clock 38 = .ok (.ldc2_w 145, 3) := gdX10_clock_34.2.2.1
theorem dX10_clock_41 : decode cX10_clock 41 = .ok (.iload_n 3, 1) := gdX10_clock_34.2.2.2.1
theorem dX10_clock_42 : decode cX10_clock 42 = .ok (.invokestatic 147, 3) := gdX10_clock_34.2.2.2.2.1
theorem dX10_clock_45 : decode cX10_clock 45 = .ok (.lreturn, 1) := gdX10_clock_34.2.2.2.2.2
theorem gdX10_noons_0 : (decode cX10_noons 0 = .ok (.aload_n 0, 1)) ∧ (decode cX10_noons 1 = .ok (.iload_n 1, 1)) ∧ (decode cX10_noons 2 = .ok (.invokevirtual 133, 3)) ∧ (decode cX10_noons 5 = .ok (.ifCond .eq 18, 3)) ∧ (decode cX10_noons 8 = .ok (.aload_n 0, 1)) ∧ (decode cX10_noons 9 = .ok (.iload_n 2, 1)) ∧ (decode cX10_noons 10 = .ok (.invokevirtual 133, 3)) ∧ (decode cX10_noons 13 = .ok (.ifCond .eq 10, 3)) ∧ (decode cX10_noons 16 = .ok (.iload_n 3, 1)) ∧ (decode cX10_noons 17 = .ok (.invokestatic 182, 3)) ∧ (decode cX10_noons 20 = .ok (.ifCond .ne 7, 3)) ∧ (decode cX10_noons 23 = .ok (.ldc2_w 185, 3)) ∧ (decode cX10_noons 26 = .ok (.lreturn, 1)) ∧ (decode cX10_noons 27 = .ok (.aload_n 0, 1)) ∧ (decode cX10_noons 28 = .ok (.getfield 19, 3)) ∧ (decode cX10_noons 31 = .ok (.getfield 102, 3)) := by decide +kernel
theorem dX10_noons_0 : decode cX10_noons 0 = .ok (.aload_n 0, 1) := gdX10_noons_0.1
theorem dX10_noons_1 : decode cX10_noons 1 = .ok (.iload_n 1, 1) := gdX10_noons_0.2.1
theorem dX10_noons_2 : decode cX10_noons 2 = .ok (.invokevirtual 133, 3) := gdX10_noons_0.2.2.1
theorem dX10_noons_5 : decode cX10_noons 5 = .ok (.ifCond .eq 18, 3) := gdX10_noons_0.2.2.2.1
theorem dX10_noons_8 : decode cX10_noons 8 = .ok (.aload_n 0, 1) := gdX10_noons_0.2.2.2.2.1
theorem dX10_noons_9 : decode cX10_noons 9 = .ok (.iload_n 2, 1) := gdX10_noons_0.2.2.2.2.2.1
theorem dX10_noons_10 : decode cX10_noons 10 = .ok (.invokevirtual 133, 3) := gdX10_noons_0.2.2.2.2.2.2.1
theorem dX10_noons_13 : decode cX10_noons 13 = .ok (.ifCond .eq 10, 3) := gdX10_noons_0.2.2.2.2.2.2.2.1
theorem dX10_noons_16 : decode cX10_noons 16 = .ok (.iload_n 3, 1) := gdX10_noons_0.2.2.2.2.2.2.2.2.1
theorem dX10_noons_17 : decode cX10_noons 17 = .ok (.invokestatic 182, 3) := gdX10_noons_0.2.2.2.2.2.2.2.2.2.1
theorem dX10_noons_20 : decode cX10_noons 20 = .ok (.ifCond .ne 7, 3) := gdX10_noons_0.2.2.2.2.2.2.2.2.2.2.1
theorem dX10_noons_23 : decode cX10_noons 23 = .ok (.ldc2_w 185, 3) := gdX10_noons_0.2.2.2.2.2.2.2.2.2.2.2.1
theorem dX10_noons_26 : decode cX10_noons 26 = .ok (.lreturn, 1) := gdX10_noons_0.2.2.2.2.2.2.2.2.2.2.2.2.1
theorem dX10_noons_27 : decode cX10_noons 27 = .ok (.aload_n 0, 1) := gdX10_noons_0.2.2.2.2.2.2.2.2.2.2.2.2.2.1
theorem dX10_noons_28 : decode cX10_noons 28 = .ok (.getfield 19, 3) := gdX10_noons_0.2.2.2.2.2.2.2.2.2.2.2.2.2.2.1
theorem dX10_noons_31 : decode cX10_noons 31 = .ok (.getfield 102, 3) := gdX10_noons_0.2.2.2.2.2.2.2.2.2.2.2.2.2.2.2
theorem gdX10_noons_34 : (decode cX10_noons 34 = .ok (.getfield 141, 3)) ∧ (decode cX10_noons 37 = .ok (.iload_n 1, 1)) ∧ (decode cX10_noons 38 = .ok (.laload, 1)) ∧ (decode cX10_noons 39 = .ok (.lstore 4, 2)) ∧ (decode cX10_noons 41 = .ok (.aload_n 0, 1)) ∧ (decode cX10_noons 42 = .ok (.getfield 19, 3)) ∧ (decode cX10_noons 45 = .ok (.getfield 102, 3)) ∧ (decode cX10_noons 48 = .ok (.getfield 141, 3)) ∧ (decode cX10_noons 51 = .ok (.iload_n 2, 1)) ∧ (decode cX10_noons 52 = .ok (.laload, 1)) ∧ (decode cX10_noons 53 = .ok (.lstore 6, 2)) ∧ (decode cX10_noons 55 = .ok (.lload 4, 2)) ∧ (decode cX10_noons 57 = .ok (.lload 6, 2)) ∧ (decode cX10_noons 59 = .ok (.invokestatic 236, 3)) ∧ (decode cX10_noons 62 = .ok (.lstore 8, 2)) ∧ (decode cX10_noons 64 = .ok (.lload 8, 2)) := by decide +kernel
theorem dX10_noons_34 : decode cX10_noons 34 = .ok (.getfield 141, 3) := gdX10_noons_34.1
theorem dX10_noons_37 : decode cX10_noons 37 = .ok (.iload_n 1, 1) := gdX10_noons_34.2.1
theorem dX10_noons_38 : decode cX10_noons 38 = .ok (.laload, 1) := gdX10_noons_34.2.2.1
theorem dX10_noons_39 : decode cX10_noons 39 = .ok (.lstore 4, 2) := gdX10_noons_34.2.2.2.1
theorem dX10_noons_41 : decode cX10_noons 41 = .ok (.aload_n 0, 1) := gdX10_noons_34.2.2.2.2.1
theorem dX10_noons_42 : decode cX10_noons 42 = .ok (.getfield 19, 3) := gdX10_noons_34.2.2.2.2.2.1
theorem dX10_noons_45 : decode cX10_noons 45 = .ok (.getfield 102, 3) := gdX10_noons_34.2.2.2.2.2.2.1
theorem dX10_noons_48 : decode cX10_noons 48 = .ok (.getfield 141, 3) := gdX10_noons_34.2.2.2.2.2.2.2.1
theorem dX10_noons_51 : decode cX10_noons 51 = .ok (.iload_n 2, 1) := gdX10_noons_34.2.2.2.2.2.2.2.2.1
theorem dX10_noons_52 : decode cX10_noons 52 = .ok (.laload, 1) := gdX10_noons_34.2.2.2.2.2.2.2.2.2.1
theorem dX10_noons_53 : decode cX10_noons 53 = .ok (.lstore 6, 2) := gdX10_noons_34.2.2.2.2.2.2.2.2.2.2.1
theorem dX10_noons_55 : decode cX10_noons 55 = .ok (.lload 4, 2) := gdX10_noons_34.2.2.2.2.2.2.2.2.2.2.2.1
theorem dX10_noons_57 : decode cX10_noons 57 = .ok (.lload 6, 2) := gdX10_noons_34.2.2.2.2.2.2.2.2.2.2.2.2.1
theorem dX10_noons_59 : decode cX10_noons 59 = .ok (.invokestatic 236, 3) := gdX10_noons_34.2.2.2.2.2.2.2.2.2.2.2.2.2.1
theorem dX10_noons_62 : decode cX10_noons 62 = .ok (.lstore 8, 2) := gdX10_noons_34.2.2.2.2.2.2.2.2.2.2.2.2.2.2.1
theorem dX10_noons_64 : decode cX10_noons 64 = .ok (.lload 8, 2) := gdX10_noons_34.2.2.2.2.2.2.2.2.2.2.2.2.2.2.2
theorem gdX10_noons_66 : (decode cX10_noons 66 = .ok (.lconst 0, 1)) ∧ (decode cX10_noons 67 = .ok (.lcmp, 1)) ∧ (decode cX10_noons 68 = .ok (.ifCond .eq 31, 3)) ∧ (decode cX10_noons 71 = .ok (.lload 4, 2)) ∧ (decode cX10_noons 73 = .ok (.lload 8, 2)) ∧ (decode cX10_noons 75 = .ok (.ldiv, 1)) ∧ (decode cX10_noons 76 = .ok (.ldc2_w 240, 3)) ∧ (decode cX10_noons 79 = .ok (.lrem, 1)) ∧ (decode cX10_noons 80 = .ok (.lconst 0, 1)) ∧ (decode cX10_noons 81 = .ok (.lcmp, 1)) ∧ (decode cX10_noons 82 = .ok (.ifCond .eq 17, 3)) ∧ (decode cX10_noons 85 = .ok (.lload 6, 2)) ∧ (decode cX10_noons 87 = .ok (.lload 8, 2)) ∧ (decode cX10_noons 89 = .ok (.ldiv, 1)) ∧ (decode cX10_noons 90 = .ok (.ldc2_w 240, 3)) ∧ (decode cX10_noons 93 = .ok (.lrem, 1)) := by decide +kernel
theorem dX10_noons_66 : decode cX10_noons 66 = .ok (.lconst 0, 1) := gdX10_noons_66.1
theorem dX10_noons_67 : decode cX10_noons 67 = .ok (.lcmp, 1) := gdX10_noons_66.2.1
theorem dX10_noons_68 : decode cX10_noons 68 = .ok (.ifCond .eq 31, 3) := gdX10_noons_66.2.2.1
theorem dX10_noons_71 : decode cX10_noons 71 = .ok (.lload 4, 2) := gdX10_noons_66.2.2.2.1
theorem dX10_noons_73 : decode cX10_noons 73 = .ok (.lload 8, 2) := gdX10_noons_66.2.2.2.2.1
theorem dX10_noons_75 : decode cX10_noons 75 = .ok (.ldiv, 1) := gdX10_noons_66.2.2.2.2.2.1
theorem dX10_noons_76 : decode cX10_noons 76 = .ok (.ldc2_w 240, 3) := gdX10_noons_66.2.2.2.2.2.2.1
theorem dX10_noons_79 : decode cX10_noons 79 = .ok (.lrem, 1) := gdX10_noons_66.2.2.2.2.2.2.2.1
theorem dX10_noons_80 : decode cX10_noons 80 = .ok (.lconst 0, 1) := gdX10_noons_66.2.2.2.2.2.2.2.2.1
theorem dX10_noons_81 : decode cX10_noons 81 = .ok (.lcmp, 1) := gdX10_noons_66.2.2.2.2.2.2.2.2.2.1
theorem dX10_noons_82 : decode cX10_noons 82 = .ok (.ifCond .eq 17, 3) := gdX10_noons_66.2.2.2.2.2.2.2.2.2.2.1
theorem dX10_noons_85 : decode cX10_noons 85 = .ok (.lload 6, 2) := gdX10_noons_66.2.2.2.2.2.2.2.2.2.2.2.1
theorem dX10_noons_87 : decode cX10_noons 87 = .ok (.lload 8, 2) := gdX10_noons_66.2.2.2.2.2.2.2.2.2.2.2.2.1
theorem dX10_noons_89 : decode cX10_noons 89 = .ok (.ldiv, 1) := gdX10_noons_66.2.2.2.2.2.2.2.2.2.2.2.2.2.1
theorem dX10_noons_90 : decode cX10_noons 90 = .ok (.ldc2_w 240, 3) := gdX10_noons_66.2.2.2.2.2.2.2.2.2.2.2.2.2.2.1
theorem dX10_noons_93 : decode cX10_noons 93 = .ok (.lrem, 1) := gdX10_noons_66.2.2.2.2.2.2.2.2.2.2.2.2.2.2.2
theorem gdX10_noons_94 : (decode cX10_noons 94 = .ok (.lconst 0, 1)) ∧ (decode cX10_noons 95 = .ok (.lcmp, 1)) ∧ (decode cX10_noons 96 = .ok (.ifCond .ne 7, 3)) ∧ (decode cX10_noons 99 = .ok (.ldc2_w 216, 3)) ∧ (decode cX10_noons 102 = .ok (.lreturn, 1)) ∧ (decode cX10_noons 103 = .ok (.ldc2_w 242, 3)) ∧ (decode cX10_noons 106 = .ok (.lload 8, 2)) ∧ (decode cX10_noons 108 = .ok (.iload_n 3, 1)) ∧ (decode cX10_noons 109 = .ok (.invokestatic 147, 3)) ∧ (decode cX10_noons 112 = .ok (.lreturn, 1)) := by decide +kernel
theorem dX10_noons_94 : decode cX10_noons 94 = .ok (.lconst 0, 1) := gdX10_noons_94.1
theorem dX10_noons_95 : decode cX10_noons 95 = .ok (.lcmp, 1) := gdX10_noons_94.2.1
theorem dX10_noons_96 : decode cX10_noons 96 = .ok (.ifCond .ne 7, 3) := gdX10_noons_94.2.2.1
theorem dX10_noons_99 : decode cX10_noons 99 = .ok (.ldc2_w 216, 3) := gdX10_noons_94.2.2.2.1
theorem dX10_noons_102 : decode cX10_noons 102 = .ok (.lreturn, 1) := gdX10_noons_94.2.2.2.2.1
theorem dX10_noons_103 : decode cX10_noons 103 = .ok (.ldc2_w 242, 3) := gdX10_noons_94.2.2.2.2.2.1
theorem dX10_noons_106 : decode cX10_noons 106 = .ok (.lload 8, 2) := gdX10_noons_94.2.2.2.2.2.2.1
theorem dX10_noons_108 : decode cX10_noons 108 = .ok (.iload_n 3, 1) := gdX10_noons_94.2.2.2.2.2.2.2.1
theorem dX10_noons_109 : decode cX10_noons 109 = .ok (.invokestatic 147, 3) := gdX10_noons_94.2.2.2.2.2.2.2.2.1
theorem dX10_noons_112 : decode cX10_noons 112 = .ok (.lreturn, 1) := gdX10_noons_94.2.2.2.2.2.2.2.2.2
theorem gdX10_plan_0 : (decode cX10_plan 0 = .ok (.aload_n 0, 1)) ∧ (decode cX10_plan 1 = .ok (.iload_n 1, 1)) ∧ (decode cX10_plan 2 = .ok (.invokevirtual 190, 3)) ∧ (decode cX10_plan 5 = .ok (.ifCond .eq 11, 3)) ∧ (decode cX10_plan 8 = .ok (.aload_n 0, 1)) ∧ (decode cX10_plan 9 = .ok (.iload_n 2, 1)) ∧ (decode cX10_plan 10 = .ok (.invokevirtual 133, 3)) ∧ (decode cX10_plan 13 = .ok (.ifCond .ne 7, 3)) ∧ (decode cX10_plan 16 = .ok (.ldc2_w 185, 3)) ∧ (decode cX10_plan 19 = .ok (.lreturn, 1)) ∧ (decode cX10_plan 20 = .ok (.iload_n 3, 1)) ∧ (decode cX10_plan 21 = .ok (.iconst 0, 1)) ∧ (decode cX10_plan 22 = .ok (.bipush 120, 2)) ∧ (decode cX10_plan 24 = .ok (.invokestatic 91, 3)) ∧ (decode cX10_plan 27 = .ok (.ifCond .eq 13, 3)) ∧ (decode cX10_plan 30 = .ok (.iload 5, 2)) := by decide +kernel
theorem dX10_plan_0 : decode cX10_plan 0 = .ok (.aload_n 0, 1) := gdX10_plan_0.1
theorem dX10_plan_1 : decode cX10_plan 1 = .ok (.iload_n 1, 1) := gdX10_plan_0.2.1
theorem dX10_plan_2 : decode cX10_plan 2 = .ok (.invokevirtual 190, 3) := gdX10_plan_0.2.2.1
theorem dX10_plan_5 : decode cX10_plan 5 = .ok (.ifCond .eq 11, 3) := gdX10_plan_0.2.2.2.1
theorem dX10_plan_8 : decode cX10_plan 8 = .ok (.aload_n 0, 1) := gdX10_plan_0.2.2.2.2.1
theorem dX10_plan_9 : decode cX10_plan 9 = .ok (.iload_n 2, 1) := gdX10_plan_0.2.2.2.2.2.1
theorem dX10_plan_10 : decode cX10_plan 10 = .ok (.invokevirtual 133, 3) := gdX10_plan_0.2.2.2.2.2.2.1
theorem dX10_plan_13 : decode cX10_plan 13 = .ok (.ifCond .ne 7, 3) := gdX10_plan_0.2.2.2.2.2.2.2.1
theorem dX10_plan_16 : decode cX10_plan 16 = .ok (.ldc2_w 185, 3) := gdX10_plan_0.2.2.2.2.2.2.2.2.1
theorem dX10_plan_19 : decode cX10_plan 19 = .ok (.lreturn, 1) := gdX10_plan_0.2.2.2.2.2.2.2.2.2.1
theorem dX10_plan_20 : decode cX10_plan 20 = .ok (.iload_n 3, 1) := gdX10_plan_0.2.2.2.2.2.2.2.2.2.2.1
theorem dX10_plan_21 : decode cX10_plan 21 = .ok (.iconst 0, 1) := gdX10_plan_0.2.2.2.2.2.2.2.2.2.2.2.1
theorem dX10_plan_22 : decode cX10_plan 22 = .ok (.bipush 120, 2) := gdX10_plan_0.2.2.2.2.2.2.2.2.2.2.2.2.1
theorem dX10_plan_24 : decode cX10_plan 24 = .ok (.invokestatic 91, 3) := gdX10_plan_0.2.2.2.2.2.2.2.2.2.2.2.2.2.1
theorem dX10_plan_27 : decode cX10_plan 27 = .ok (.ifCond .eq 13, 3) := gdX10_plan_0.2.2.2.2.2.2.2.2.2.2.2.2.2.2.1
theorem dX10_plan_30 : decode cX10_plan 30 = .ok (.iload 5, 2) := gdX10_plan_0.2.2.2.2.2.2.2.2.2.2.2.2.2.2.2
theorem gdX10_plan_32 : (decode cX10_plan 32 = .ok (.iconst 0, 1)) ∧ (decode cX10_plan 33 = .ok (.iconst 2, 1)) ∧ (decode cX10_plan 34 = .ok (.invokestatic 91, 3)) ∧ (decode cX10_plan 37 = .ok (.ifCond .ne 7, 3)) ∧ (decode cX10_plan 40 = .ok (.ldc2_w 185, 3)) ∧ (decode cX10_plan 43 = .ok (.lreturn, 1)) ∧ (decode cX10_plan 44 = .ok (.aload_n 0, 1)) ∧ (decode cX10_plan 45 = .ok (.getfield 19, 3)) ∧ (decode cX10_plan 48 = .ok (.getfield 109, 3)) ∧ (decode cX10_plan 51 = .ok (.getfield 170, 3)) ∧ (decode cX10_plan 54 = .ok (.iload_n 1, 1)) ∧ (decode cX10_plan 55 = .ok (.iaload, 1)) ∧ (decode cX10_plan 56 = .ok (.istore 6, 2)) ∧ (decode cX10_plan 58 = .ok (.aload_n 0, 1)) ∧ (decode cX10_plan 59 = .ok (.getfield 68, 3)) ∧ (decode cX10_plan 62 = .ok (.aload_n 0, 1)) := by decide +kernel
theorem dX10_plan_32 : decode cX10_plan 32 = .ok (.iconst 0, 1) := gdX10_plan_32.1
theorem dX10_plan_33 : decode cX10_plan 33 = .ok (.iconst 2, 1) := gdX10_plan_32.2.1
theorem dX10_plan_34 : decode cX10_plan 34 = .ok (.invokestatic 91, 3) := gdX10_plan_32.2.2.1
theorem dX10_plan_37 : decode cX10_plan 37 = .ok (.ifCond .ne 7, 3) := gdX10_plan_32.2.2.2.1
theorem dX10_plan_40 : decode cX10_plan 40 = .ok (.ldc2_w 185, 3) := gdX10_plan_32.2.2.2.2.1
theorem dX10_plan_43 : decode cX10_plan 43 = .ok (.lreturn, 1) := gdX10_plan_32.2.2.2.2.2.1
theorem dX10_plan_44 : decode cX10_plan 44 = .ok (.aload_n 0, 1) := gdX10_plan_32.2.2.2.2.2.2.1
theorem dX10_plan_45 : decode cX10_plan 45 = .ok (.getfield 19, 3) := gdX10_plan_32.2.2.2.2.2.2.2.1
theorem dX10_plan_48 : decode cX10_plan 48 = .ok (.getfield 109, 3) := gdX10_plan_32.2.2.2.2.2.2.2.2.1
theorem dX10_plan_51 : decode cX10_plan 51 = .ok (.getfield 170, 3) := gdX10_plan_32.2.2.2.2.2.2.2.2.2.1
theorem dX10_plan_54 : decode cX10_plan 54 = .ok (.iload_n 1, 1) := gdX10_plan_32.2.2.2.2.2.2.2.2.2.2.1
theorem dX10_plan_55 : decode cX10_plan 55 = .ok (.iaload, 1) := gdX10_plan_32.2.2.2.2.2.2.2.2.2.2.2.1
theorem dX10_plan_56 : decode cX10_plan 56 = .ok (.istore 6, 2) := gdX10_plan_32.2.2.2.2.2.2.2.2.2.2.2.2.1
theorem dX10_plan_58 : decode cX10_plan 58 = .ok (.aload_n 0, 1) := gdX10_plan_32.2.2.2.2.2.2.2.2.2.2.2.2.2.1
theorem dX10_plan_59 : decode cX10_plan 59 = .ok (.getfield 68, 3) := gdX10_plan_32.2.2.2.2.2.2.2.2.2.2.2.2.2.2.1
theorem dX10_plan_62 : decode cX10_plan 62 = .ok (.aload_n 0, 1) := gdX10_plan_32.2.2.2.2.2.2.2.2.2.2.2.2.2.2.2
theorem gdX10_plan_63 : (decode cX10_plan 63 = .ok (.getfield 19, 3)) ∧ (decode cX10_plan 66 = .ok (.getfield 102, 3)) ∧ (decode cX10_plan 69 = .ok (.iload_n 2, 1)) ∧ (decode cX10_plan 70 = .ok (.iload_n 3, 1)) ∧ (decode cX10_plan 71 = .ok (.iload 4, 2)) ∧ (decode cX10_plan 73 = .ok (.invokevirtual 244, 3)) ∧ (decode cX10_plan 76 = .ok (.aload_n 0, 1)) ∧ (decode cX10_plan 77 = .ok (.getfield 68, 3)) ∧ (decode cX10_plan 80 = .ok (.iload_n 3, 1)) ∧ (decode cX10_plan 81 = .ok (.iload 6, 2)) ∧ (decode cX10_plan 83 = .ok (.invokevirtual 248, 3)) ∧ (decode cX10_plan 86 = .ok (.lstore 7, 2)) ∧ (decode cX10_plan 88 = .ok (.lload 7, 2)) ∧ (decode cX10_plan 90 = .ok (.lconst 0, 1)) ∧ (decode cX10_plan 91 = .ok (.lcmp, 1)) ∧ (decode cX10_plan 92 = .ok (.ifCond .ge 7, 3)) := by decide +kernel
theorem dX10_plan_63 : decode cX10_plan 63 = .ok (.getfield 19, 3) := gdX10_plan_63.1
theorem dX10_plan_66 : decode cX10_plan 66 = .ok (.getfield 102, 3) := gdX10_plan_63.2.1
theorem dX10_plan_69 : decode cX10_plan 69 = .ok (.iload_n 2, 1) := gdX10_plan_63.2.2.1
theorem dX10_plan_70 : decode cX10_plan 70 = .ok (.iload_n 3, 1) := gdX10_plan_63.2.2.2.1
theorem dX10_plan_71 : decode cX10_plan 71 = .ok (.iload 4, 2) := gdX10_plan_63.2.2.2.2.1
theorem dX10_plan_73 : decode cX10_plan 73 = .ok (.invokevirtual 244, 3) := gdX10_plan_63.2.2.2.2.2.1
theorem dX10_plan_76 : decode cX10_plan 76 = .ok (.aload_n 0, 1) := gdX10_plan_63.2.2.2.2.2.2.1
theorem dX10_plan_77 : decode cX10_plan 77 = .ok (.getfield 68, 3) := gdX10_plan_63.2.2.2.2.2.2.2.1
theorem dX10_plan_80 : decode cX10_plan 80 = .ok (.iload_n 3, 1) := gdX10_plan_63.2.2.2.2.2.2.2.2.1
theorem dX10_plan_81 : decode cX10_plan 81 = .ok (.iload 6, 2) := gdX10_plan_63.2.2.2.2.2.2.2.2.2.1
theorem dX10_plan_83 : decode cX10_plan 83 = .ok (.invokevirtual 248, 3) := gdX10_plan_63.2.2.2.2.2.2.2.2.2.2.1
theorem dX10_plan_86 : decode cX10_plan 86 = .ok (.lstore 7, 2) := gdX10_plan_63.2.2.2.2.2.2.2.2.2.2.2.1
theorem dX10_plan_88 : decode cX10_plan 88 = .ok (.lload 7, 2) := gdX10_plan_63.2.2.2.2.2.2.2.2.2.2.2.2.1
theorem dX10_plan_90 : decode cX10_plan 90 = .ok (.lconst 0, 1) := gdX10_plan_63.2.2.2.2.2.2.2.2.2.2.2.2.2.1
theorem dX10_plan_91 : decode cX10_plan 91 = .ok (.lcmp, 1) := gdX10_plan_63.2.2.2.2.2.2.2.2.2.2.2.2.2.2.1
theorem dX10_plan_92 : decode cX10_plan 92 = .ok (.ifCond .ge 7, 3) := gdX10_plan_63.2.2.2.2.2.2.2.2.2.2.2.2.2.2.2
theorem gdX10_plan_95 : (decode cX10_plan 95 = .ok (.ldc2_w 216, 3)) ∧ (decode cX10_plan 98 = .ok (.lreturn, 1)) ∧ (decode cX10_plan 99 = .ok (.iload 5, 2)) ∧ (decode cX10_plan 101 = .ok (.iconst 2, 1)) ∧ (decode cX10_plan 102 = .ok (.if_icmp .ne 22, 3)) ∧ (decode cX10_plan 105 = .ok (.aload_n 0, 1)) ∧ (decode cX10_plan 106 = .ok (.getfield 68, 3)) ∧ (decode cX10_plan 109 = .ok (.aload_n 0, 1)) ∧ (decode cX10_plan 110 = .ok (.getfield 19, 3)) ∧ (decode cX10_plan 113 = .ok (.getfield 102, 3)) ∧ (decode cX10_plan 116 = .ok (.iload_n 3, 1)) ∧ (decode cX10_plan 117 = .ok (.iload 6, 2)) ∧ (decode cX10_plan 119 = .ok (.invokevirtual 251, 3)) ∧ (decode cX10_plan 122 = .ok (.i2l, 1)) ∧ (decode cX10_plan 123 = .ok (.lreturn, 1)) ∧ (decode cX10_plan 124 = .ok (.aload_n 0, 1)) := by decide +kernel
theorem dX10_plan_95 : decode cX10_plan 95 = .ok (.ldc2_w 216, 3) := gdX10_plan_95.1
theorem dX10_plan_98 : decode cX10_plan 98 = .ok (.lreturn, 1) := gdX10_plan_95.2.1
theorem dX10_plan_99 : decode cX10_plan 99 = .ok (.iload 5, 2) := gdX10_plan_95.2.2.1
theorem dX10_plan_101 : decode cX10_plan 101 = .ok (.iconst 2, 1) := gdX10_plan_95.2.2.2.1
theorem dX10_plan_102 : decode cX10_plan 102 = .ok (.if_icmp .ne 22, 3) := gdX10_plan_95.2.2.2.2.1
theorem dX10_plan_105 : decode cX10_plan 105 = .ok (.aload_n 0, 1) := gdX10_plan_95.2.2.2.2.2.1
theorem dX10_plan_106 : decode cX10_plan 106 = .ok (.getfield 68, 3) := gdX10_plan_95.2.2.2.2.2.2.1
theorem dX10_plan_109 : decode cX10_plan 109 = .ok (.aload_n 0, 1) := gdX10_plan_95.2.2.2.2.2.2.2.1
theorem dX10_plan_110 : decode cX10_plan 110 = .ok (.getfield 19, 3) := gdX10_plan_95.2.2.2.2.2.2.2.2.1
theorem dX10_plan_113 : decode cX10_plan 113 = .ok (.getfield 102, 3) := gdX10_plan_95.2.2.2.2.2.2.2.2.2.1
theorem dX10_plan_116 : decode cX10_plan 116 = .ok (.iload_n 3, 1) := gdX10_plan_95.2.2.2.2.2.2.2.2.2.2.1
theorem dX10_plan_117 : decode cX10_plan 117 = .ok (.iload 6, 2) := gdX10_plan_95.2.2.2.2.2.2.2.2.2.2.2.1
theorem dX10_plan_119 : decode cX10_plan 119 = .ok (.invokevirtual 251, 3) := gdX10_plan_95.2.2.2.2.2.2.2.2.2.2.2.2.1
theorem dX10_plan_122 : decode cX10_plan 122 = .ok (.i2l, 1) := gdX10_plan_95.2.2.2.2.2.2.2.2.2.2.2.2.2.1
theorem dX10_plan_123 : decode cX10_plan 123 = .ok (.lreturn, 1) := gdX10_plan_95.2.2.2.2.2.2.2.2.2.2.2.2.2.2.1
theorem dX10_plan_124 : decode cX10_plan 124 = .ok (.aload_n 0, 1) := gdX10_plan_95.2.2.2.2.2.2.2.2.2.2.2.2.2.2.2
theorem gdX10_plan_125 : (decode cX10_plan 125 = .ok (.getfield 19, 3)) ∧ (decode cX10_plan 128 = .ok (.getfield 109, 3)) ∧ (decode cX10_plan 131 = .ok (.getfield 187, 3)) ∧ (decode cX10_plan 134 = .ok (.iload_n 1, 1)) ∧ (decode cX10_plan 135 = .ok (.laload, 1)) ∧ (decode cX10_plan 136 = .ok (.lload 7, 2)) ∧ (decode cX10_plan 138 = .ok (.ladd, 1)) ∧ (decode cX10_plan 139 = .ok (.ldc2_w 145, 3)) ∧ (decode cX10_plan 142 = .ok (.iload 5, 2)) ∧ (decode cX10_plan 144 = .ok (.invokestatic 147, 3)) ∧ (decode cX10_plan 147 = .ok (.lreturn, 1)) := by decide +kernel
theorem dX10_plan_125 : decode cX10_plan 125 = .ok (.getfield 19, 3) := gdX10_plan_125.1
theorem dX10_plan_128 : decode cX10_plan 128 = .ok (.getfield 109, 3) := gdX10_plan_125.2.1
theorem dX10_plan_131 : decode cX10_plan 131 = .ok (.getfield 187, 3) := gdX10_plan_125.2.2.1
theorem dX10_plan_134 : decode cX10_plan 134 = .ok (.iload_n 1, 1) := gdX10_plan_125.2.2.2.1
theorem dX10_plan_135 : decode cX10_plan 135 = .ok (.laload, 1) := gdX10_plan_125.2.2.2.2.1
theorem dX10_plan_136 : decode cX10_plan 136 = .ok (.lload 7, 2) := gdX10_plan_125.2.2.2.2.2.1
theorem dX10_plan_138 : decode cX10_plan 138 = .ok (.ladd, 1) := gdX10_plan_125.2.2.2.2.2.2.1
theorem dX10_plan_139 : decode cX10_plan 139 = .ok (.ldc2_w 145, 3) := gdX10_plan_125.2.2.2.2.2.2.2.1
theorem dX10_plan_142 : decode cX10_plan 142 = .ok (.iload 5, 2) := gdX10_plan_125.2.2.2.2.2.2.2.2.1
theorem dX10_plan_144 : decode cX10_plan 144 = .ok (.invokestatic 147, 3) := gdX10_plan_125.2.2.2.2.2.2.2.2.2.1
theorem dX10_plan_147 : decode cX10_plan 147 = .ok (.lreturn, 1) := gdX10_plan_125.2.2.2.2.2.2.2.2.2.2
theorem gdX10_even_0 : (decode cX10_even 0 = .ok (.aload_n 0, 1)) ∧ (decode cX10_even 1 = .ok (.iload_n 1, 1)) ∧ (decode cX10_even 2 = .ok (.invokevirtual 167, 3)) ∧ (decode cX10_even 5 = .ok (.ifCond .eq 16, 3)) ∧ (decode cX10_even 8 = .ok (.aload_n 0, 1)) ∧ (decode cX10_even 9 = .ok (.iload_n 2, 1)) ∧ (decode cX10_even 10 = .ok (.invokevirtual 167, 3)) ∧ (decode cX10_even 13 = .ok (.ifCond .eq 8, 3)) ∧ (decode cX10_even 16 = .ok (.iload_n 1, 1)) ∧ (decode cX10_even 17 = .ok (.iload_n 2, 1)) ∧ (decode cX10_even 18 = .ok (.if_icmp .ne 7, 3)) ∧ (decode cX10_even 21 = .ok (.ldc2_w 185, 3)) ∧ (decode cX10_even 24 = .ok (.lreturn, 1)) ∧ (decode cX10_even 25 = .ok (.aload_n 0, 1)) ∧ (decode cX10_even 26 = .ok (.iload_n 3, 1)) ∧ (decode cX10_even 27 = .ok (.invokevirtual 133, 3)) := by decide +kernel
theorem dX10_even_0 : decode cX10_even 0 = .ok (.aload_n 0, 1) := gdX10_even_0.1
theorem dX10_even_1 : decode cX10_even 1 = .ok (.iload_n 1, 1) := gdX10_even_0.2.1
theorem dX10_even_2 : decode cX10_even 2 = .ok (.invokevirtual 167, 3) := gdX10_even_0.2.2.1
theorem dX10_even_5 : decode cX10_even 5 = .ok (.ifCond .eq 16, 3) := gdX10_even_0.2.2.2.1
theorem dX10_even_8 : decode cX10_even 8 = .ok (.aload_n 0, 1) := gdX10_even_0.2.2.2.2.1
theorem dX10_even_9 : decode cX10_even 9 = .ok (.iload_n 2, 1) := gdX10_even_0.2.2.2.2.2.1
theorem dX10_even_10 : decode cX10_even 10 = .ok (.invokevirtual 167, 3) := gdX10_even_0.2.2.2.2.2.2.1
theorem dX10_even_13 : decode cX10_even 13 = .ok (.ifCond .eq 8, 3) := gdX10_even_0.2.2.2.2.2.2.2.1
theorem dX10_even_16 : decode cX10_even 16 = .ok (.iload_n 1, 1) := gdX10_even_0.2.2.2.2.2.2.2.2.1
theorem dX10_even_17 : decode cX10_even 17 = .ok (.iload_n 2, 1) := gdX10_even_0.2.2.2.2.2.2.2.2.2.1
theorem dX10_even_18 : decode cX10_even 18 = .ok (.if_icmp .ne 7, 3) := gdX10_even_0.2.2.2.2.2.2.2.2.2.2.1
theorem dX10_even_21 : decode cX10_even 21 = .ok (.ldc2_w 185, 3) := gdX10_even_0.2.2.2.2.2.2.2.2.2.2.2.1
theorem dX10_even_24 : decode cX10_even 24 = .ok (.lreturn, 1) := gdX10_even_0.2.2.2.2.2.2.2.2.2.2.2.2.1
theorem dX10_even_25 : decode cX10_even 25 = .ok (.aload_n 0, 1) := gdX10_even_0.2.2.2.2.2.2.2.2.2.2.2.2.2.1
theorem dX10_even_26 : decode cX10_even 26 = .ok (.iload_n 3, 1) := gdX10_even_0.2.2.2.2.2.2.2.2.2.2.2.2.2.2.1
theorem dX10_even_27 : decode cX10_even 27 = .ok (.invokevirtual 133, 3) := gdX10_even_0.2.2.2.2.2.2.2.2.2.2.2.2.2.2.2
theorem gdX10_even_30 : (decode cX10_even 30 = .ok (.ifCond .eq 20, 3)) ∧ (decode cX10_even 33 = .ok (.aload_n 0, 1)) ∧ (decode cX10_even 34 = .ok (.iload 4, 2)) ∧ (decode cX10_even 36 = .ok (.invokevirtual 133, 3)) ∧ (decode cX10_even 39 = .ok (.ifCond .eq 11, 3)) ∧ (decode cX10_even 42 = .ok (.iload 5, 2)) ∧ (decode cX10_even 44 = .ok (.invokestatic 182, 3)) ∧ (decode cX10_even 47 = .ok (.ifCond .ne 7, 3)) ∧ (decode cX10_even 50 = .ok (.ldc2_w 185, 3)) ∧ (decode cX10_even 53 = .ok (.lreturn, 1)) ∧ (decode cX10_even 54 = .ok (.aload_n 0, 1)) ∧ (decode cX10_even 55 = .ok (.getfield 19, 3)) ∧ (decode cX10_even 58 = .ok (.getfield 109, 3)) ∧ (decode cX10_even 61 = .ok (.getfield 187, 3)) ∧ (decode cX10_even 64 = .ok (.iload_n 2, 1)) ∧ (decode cX10_even 65 = .ok (.laload, 1)) := by decide +kernel
theorem dX10_even_30 : decode cX10_even 30 = .ok (.ifCond .eq 20, 3) := gdX10_even_30.1
theorem dX10_even_33 : decode cX10_even 33 = .ok (.aload_n 0, 1) := gdX10_even_30.2.1
theorem dX10_even_34 : decode cX10_even 34 = .ok (.iload 4, 2) := gdX10_even_30.2.2.1
theorem dX10_even_36 : decode cX10_even 36 = .ok (.invokevirtual 133, 3) := gdX10_even_30.2.2.2.1
theorem dX10_even_39 : decode cX10_even 39 = .ok (.ifCond .eq 11, 3) := gdX10_even_30.2.2.2.2.1
theorem dX10_even_42 : decode cX10_even 42 = .ok (.iload 5, 2) := gdX10_even_30.2.2.2.2.2.1
theorem dX10_even_44 : decode cX10_even 44 = .ok (.invokestatic 182, 3) := gdX10_even_30.2.2.2.2.2.2.1
theorem dX10_even_47 : decode cX10_even 47 = .ok (.ifCond .ne 7, 3) := gdX10_even_30.2.2.2.2.2.2.2.1
theorem dX10_even_50 : decode cX10_even 50 = .ok (.ldc2_w 185, 3) := gdX10_even_30.2.2.2.2.2.2.2.2.1
theorem dX10_even_53 : decode cX10_even 53 = .ok (.lreturn, 1) := gdX10_even_30.2.2.2.2.2.2.2.2.2.1
theorem dX10_even_54 : decode cX10_even 54 = .ok (.aload_n 0, 1) := gdX10_even_30.2.2.2.2.2.2.2.2.2.2.1
theorem dX10_even_55 : decode cX10_even 55 = .ok (.getfield 19, 3) := gdX10_even_30.2.2.2.2.2.2.2.2.2.2.2.1
theorem dX10_even_58 : decode cX10_even 58 = .ok (.getfield 109, 3) := gdX10_even_30.2.2.2.2.2.2.2.2.2.2.2.2.1
theorem dX10_even_61 : decode cX10_even 61 = .ok (.getfield 187, 3) := gdX10_even_30.2.2.2.2.2.2.2.2.2.2.2.2.2.1
theorem dX10_even_64 : decode cX10_even 64 = .ok (.iload_n 2, 1) := gdX10_even_30.2.2.2.2.2.2.2.2.2.2.2.2.2.2.1
theorem dX10_even_65 : decode cX10_even 65 = .ok (.laload, 1) := gdX10_even_30.2.2.2.2.2.2.2.2.2.2.2.2.2.2.2
theorem gdX10_even_66 : (decode cX10_even 66 = .ok (.aload_n 0, 1)) ∧ (decode cX10_even 67 = .ok (.getfield 19, 3)) ∧ (decode cX10_even 70 = .ok (.getfield 109, 3)) ∧ (decode cX10_even 73 = .ok (.getfield 187, 3)) ∧ (decode cX10_even 76 = .ok (.iload_n 1, 1)) ∧ (decode cX10_even 77 = .ok (.laload, 1)) ∧ (decode cX10_even 78 = .ok (.lsub, 1)) ∧ (decode cX10_even 79 = .ok (.lstore 6, 2)) ∧ (decode cX10_even 81 = .ok (.aload_n 0, 1)) ∧ (decode cX10_even 82 = .ok (.getfield 19, 3)) ∧ (decode cX10_even 85 = .ok (.getfield 102, 3)) ∧ (decode cX10_even 88 = .ok (.getfield 141, 3)) ∧ (decode cX10_even 91 = .ok (.iload_n 3, 1)) ∧ (decode cX10_even 92 = .ok (.laload, 1)) ∧ (decode cX10_even 93 = .ok (.aload_n 0, 1)) ∧ (decode cX10_even 94 = .ok (.getfield 19, 3)) := by decide +kernel
theorem dX10_even_66 : decode cX10_even 66 = .ok (.aload_n 0, 1) := gdX10_even_66.1
theorem dX10_even_67 : decode cX10_even 67 = .ok (.getfield 19, 3) := gdX10_even_66.2.1
theorem dX10_even_70 : decode cX10_even 70 = .ok (.getfield 109, 3) := gdX10_even_66.2.2.1
theorem dX10_even_73 : decode cX10_even 73 = .ok (.getfield 187, 3) := gdX10_even_66.2.2.2.1
theorem dX10_even_76 : decode cX10_even 76 = .ok (.iload_n 1, 1) := gdX10_even_66.2.2.2.2.1
theorem dX10_even_77 : decode cX10_even 77 = .ok (.laload, 1) := gdX10_even_66.2.2.2.2.2.1
theorem dX10_even_78 : decode cX10_even 78 = .ok (.lsub, 1) := gdX10_even_66.2.2.2.2.2.2.1
theorem dX10_even_79 : decode cX10_even 79 = .ok (.lstore 6, 2) := gdX10_even_66.2.2.2.2.2.2.2.1
theorem dX10_even_81 : decode cX10_even 81 = .ok (.aload_n 0, 1) := gdX10_even_66.2.2.2.2.2.2.2.2.1
theorem dX10_even_82 : decode cX10_even 82 = .ok (.getfield 19, 3) := gdX10_even_66.2.2.2.2.2.2.2.2.2.1
theorem dX10_even_85 : decode cX10_even 85 = .ok (.getfield 102, 3) := gdX10_even_66.2.2.2.2.2.2.2.2.2.2.1
theorem dX10_even_88 : decode cX10_even 88 = .ok (.getfield 141, 3) := gdX10_even_66.2.2.2.2.2.2.2.2.2.2.2.1
theorem dX10_even_91 : decode cX10_even 91 = .ok (.iload_n 3, 1) := gdX10_even_66.2.2.2.2.2.2.2.2.2.2.2.2.1
theorem dX10_even_92 : decode cX10_even 92 = .ok (.laload, 1) := gdX10_even_66.2.2.2.2.2.2.2.2.2.2.2.2.2.1
theorem dX10_even_93 : decode cX10_even 93 = .ok (.aload_n 0, 1) := gdX10_even_66.2.2.2.2.2.2.2.2.2.2.2.2.2.2.1
theorem dX10_even_94 : decode cX10_even 94 = .ok (.getfield 19, 3) := gdX10_even_66.2.2.2.2.2.2.2.2.2.2.2.2.2.2.2
theorem gdX10_even_97 : (decode cX10_even 97 = .ok (.getfield 102, 3)) ∧ (decode cX10_even 100 = .ok (.getfield 141, 3)) ∧ (decode cX10_even 103 = .ok (.iload 4, 2)) ∧ (decode cX10_even 105 = .ok (.laload, 1)) ∧ (decode cX10_even 106 = .ok (.lsub, 1)) ∧ (decode cX10_even 107 = .ok (.lstore 8, 2)) ∧ (decode cX10_even 109 = .ok (.lload 6, 2)) ∧ (decode cX10_even 111 = .ok (.lconst 0, 1)) ∧ (decode cX10_even 112 = .ok (.lcmp, 1)) ∧ (decode cX10_even 113 = .ok (.ifCond .ne 11, 3)) ∧ (decode cX10_even 116 = .ok (.lconst 0, 1)) ∧ (decode cX10_even 117 = .ok (.lconst 1, 1)) ∧ (decode cX10_even 118 = .ok (.iload 5, 2)) ∧ (decode cX10_even 120 = .ok (.invokestatic 147, 3)) ∧ (decode cX10_even 123 = .ok (.lreturn, 1)) ∧ (decode cX10_even 124 = .ok (.lload 8, 2)) := by decide +kernel
theorem dX10_even_97 : decode cX10_even 97 = .ok (.getfield 102, 3) := gdX10_even_97.1
theorem dX10_even_100 : decode cX10_even 100 = .ok (.getfield 141, 3) := gdX10_even_97.2.1
theorem dX10_even_103 : decode cX10_even 103 = .ok (.iload 4, 2) := gdX10_even_97.2.2.1
theorem dX10_even_105 : decode cX10_even 105 = .ok (.laload, 1) := gdX10_even_97.2.2.2.1
theorem dX10_even_106 : decode cX10_even 106 = .ok (.lsub, 1) := gdX10_even_97.2.2.2.2.1
theorem dX10_even_107 : decode cX10_even 107 = .ok (.lstore 8, 2) := gdX10_even_97.2.2.2.2.2.1
theorem dX10_even_109 : decode cX10_even 109 = .ok (.lload 6, 2) := gdX10_even_97.2.2.2.2.2.2.1
theorem dX10_even_111 : decode cX10_even 111 = .ok (.lconst 0, 1) := gdX10_even_97.2.2.2.2.2.2.2.1
theorem dX10_even_112 : decode cX10_even 112 = .ok (.lcmp, 1) := gdX10_even_97.2.2.2.2.2.2.2.2.1
theorem dX10_even_113 : decode cX10_even 113 = .ok (.ifCond .ne 11, 3) := gdX10_even_97.2.2.2.2.2.2.2.2.2.1
theorem dX10_even_116 : decode cX10_even 116 = .ok (.lconst 0, 1) := gdX10_even_97.2.2.2.2.2.2.2.2.2.2.1
theorem dX10_even_117 : decode cX10_even 117 = .ok (.lconst 1, 1) := gdX10_even_97.2.2.2.2.2.2.2.2.2.2.2.1
theorem dX10_even_118 : decode cX10_even 118 = .ok (.iload 5, 2) := gdX10_even_97.2.2.2.2.2.2.2.2.2.2.2.2.1
theorem dX10_even_120 : decode cX10_even 120 = .ok (.invokestatic 147, 3) := gdX10_even_97.2.2.2.2.2.2.2.2.2.2.2.2.2.1
theorem dX10_even_123 : decode cX10_even 123 = .ok (.lreturn, 1) := gdX10_even_97.2.2.2.2.2.2.2.2.2.2.2.2.2.2.1
theorem dX10_even_124 : decode cX10_even 124 = .ok (.lload 8, 2) := gdX10_even_97.2.2.2.2.2.2.2.2.2.2.2.2.2.2.2
theorem gdX10_even_126 : (decode cX10_even 126 = .ok (.lconst 0, 1)) ∧ (decode cX10_even 127 = .ok (.lcmp, 1)) ∧ (decode cX10_even 128 = .ok (.ifCond .eq 30, 3)) ∧ (decode cX10_even 131 = .ok (.lload 6, 2)) ∧ (decode cX10_even 133 = .ok (.lconst 0, 1)) ∧ (decode cX10_even 134 = .ok (.lcmp, 1)) ∧ (decode cX10_even 135 = .ok (.ifCond .ge 7, 3)) ∧ (decode cX10_even 138 = .ok (.iconst 1, 1)) ∧ (decode cX10_even 139 = .ok (.goto 4, 3)) ∧ (decode cX10_even 142 = .ok (.iconst 0, 1)) ∧ (decode cX10_even 143 = .ok (.lload 8, 2)) ∧ (decode cX10_even 145 = .ok (.lconst 0, 1)) ∧ (decode cX10_even 146 = .ok (.lcmp, 1)) ∧ (decode cX10_even 147 = .ok (.ifCond .ge 7, 3)) ∧ (decode cX10_even 150 = .ok (.iconst 1, 1)) ∧ (decode cX10_even 151 = .ok (.goto 4, 3)) := by decide +kernel
theorem dX10_even_126 : decode cX10_even 126 = .ok (.lconst 0, 1) := gdX10_even_126.1
theorem dX10_even_127 : decode cX10_even 127 = .ok (.lcmp, 1) := gdX10_even_126.2.1
theorem dX10_even_128 : decode cX10_even 128 = .ok (.ifCond .eq 30, 3) := gdX10_even_126.2.2.1
theorem dX10_even_131 : decode cX10_even 131 = .ok (.lload 6, 2) := gdX10_even_126.2.2.2.1
theorem dX10_even_133 : decode cX10_even 133 = .ok (.lconst 0, 1) := gdX10_even_126.2.2.2.2.1
theorem dX10_even_134 : decode cX10_even 134 = .ok (.lcmp, 1) := gdX10_even_126.2.2.2.2.2.1
theorem dX10_even_135 : decode cX10_even 135 = .ok (.ifCond .ge 7, 3) := gdX10_even_126.2.2.2.2.2.2.1
theorem dX10_even_138 : decode cX10_even 138 = .ok (.iconst 1, 1) := gdX10_even_126.2.2.2.2.2.2.2.1
theorem dX10_even_139 : decode cX10_even 139 = .ok (.goto 4, 3) := gdX10_even_126.2.2.2.2.2.2.2.2.1
theorem dX10_even_142 : decode cX10_even 142 = .ok (.iconst 0, 1) := gdX10_even_126.2.2.2.2.2.2.2.2.2.1
theorem dX10_even_143 : decode cX10_even 143 = .ok (.lload 8, 2) := gdX10_even_126.2.2.2.2.2.2.2.2.2.2.1
theorem dX10_even_145 : decode cX10_even 145 = .ok (.lconst 0, 1) := gdX10_even_126.2.2.2.2.2.2.2.2.2.2.2.1
theorem dX10_even_146 : decode cX10_even 146 = .ok (.lcmp, 1) := gdX10_even_126.2.2.2.2.2.2.2.2.2.2.2.2.1
theorem dX10_even_147 : decode cX10_even 147 = .ok (.ifCond .ge 7, 3) := gdX10_even_126.2.2.2.2.2.2.2.2.2.2.2.2.2.1
theorem dX10_even_150 : decode cX10_even 150 = .ok (.iconst 1, 1) := gdX10_even_126.2.2.2.2.2.2.2.2.2.2.2.2.2.2.1
theorem dX10_even_151 : decode cX10_even 151 = .ok (.goto 4, 3) := gdX10_even_126.2.2.2.2.2.2.2.2.2.2.2.2.2.2.2
theorem gdX10_even_154 : (decode cX10_even 154 = .ok (.iconst 0, 1)) ∧ (decode cX10_even 155 = .ok (.if_icmp .eq 7, 3)) ∧ (decode cX10_even 158 = .ok (.ldc2_w 216, 3)) ∧ (decode cX10_even 161 = .ok (.lreturn, 1)) ∧ (decode cX10_even 162 = .ok (.lload 6, 2)) ∧ (decode cX10_even 164 = .ok (.invokestatic 255, 3)) ∧ (decode cX10_even 167 = .ok (.lload 8, 2)) ∧ (decode cX10_even 169 = .ok (.invokestatic 255, 3)) ∧ (decode cX10_even 172 = .ok (.iload 5, 2)) ∧ (decode cX10_even 174 = .ok (.invokestatic 147, 3)) ∧ (decode cX10_even 177 = .ok (.lreturn, 1)) := by decide +kernel
theorem dX10_even_154 : decode cX10_even 154 = .ok (.iconst 0, 1) := gdX10_even_154.1
theorem dX10_even_155 : decode cX10_even 155 = .ok (.if_icmp .eq 7, 3) := gdX10_even_154.2.1
theorem dX10_even_158 : decode cX10_even 158 = .ok (.ldc2_w 216, 3) := gdX10_even_154.2.2.1
theorem dX10_even_161 : decode cX10_even 161 = .ok (.lreturn, 1) := gdX10_even_154.2.2.2.1
theorem dX10_even_162 : decode cX10_even 162 = .ok (.lload 6, 2) := gdX10_even_154.2.2.2.2.1
theorem dX10_even_164 : decode cX10_even 164 = .ok (.invokestatic 255, 3) := gdX10_even_154.2.2.2.2.2.1
theorem dX10_even_167 : decode cX10_even 167 = .ok (.lload 8, 2) := gdX10_even_154.2.2.2.2.2.2.1
theorem dX10_even_169 : decode cX10_even 169 = .ok (.invokestatic 255, 3) := gdX10_even_154.2.2.2.2.2.2.2.1
theorem dX10_even_172 : decode cX10_even 172 = .ok (.iload 5, 2) := gdX10_even_154.2.2.2.2.2.2.2.2.1
theorem dX10_even_174 : decode cX10_even 174 = .ok (.invokestatic 147, 3) := gdX10_even_154.2.2.2.2.2.2.2.2.2.1
theorem dX10_even_177 : decode cX10_even 177 = .ok (.lreturn, 1) := gdX10_even_154.2.2.2.2.2.2.2.2.2.2
theorem gdX10_ripe_0 : (decode cX10_ripe 0 = .ok (.aload_n 0, 1)) ∧ (decode cX10_ripe 1 = .ok (.iload_n 1, 1)) ∧ (decode cX10_ripe 2 = .ok (.invokevirtual 133, 3)) ∧ (decode cX10_ripe 5 = .ok (.ifCond .eq 21, 3)) ∧ (decode cX10_ripe 8 = .ok (.aload_n 0, 1)) ∧ (decode cX10_ripe 9 = .ok (.iload_n 2, 1)) ∧ (decode cX10_ripe 10 = .ok (.invokevirtual 133, 3)) ∧ (decode cX10_ripe 13 = .ok (.ifCond .eq 13, 3)) ∧ (decode cX10_ripe 16 = .ok (.iload_n 3, 1)) ∧ (decode cX10_ripe 17 = .ok (.iconst 0, 1)) ∧ (decode cX10_ripe 18 = .ok (.bipush 16, 2)) ∧ (decode cX10_ripe 20 = .ok (.invokestatic 91, 3)) ∧ (decode cX10_ripe 23 = .ok (.ifCond .ne 5, 3)) ∧ (decode cX10_ripe 26 = .ok (.iconst (-1), 1)) ∧ (decode cX10_ripe 27 = .ok (.ireturn, 1)) ∧ (decode cX10_ripe 28 = .ok (.iload 4, 2)) := by decide +kernel
theorem dX10_ripe_0 : decode cX10_ripe 0 = .ok (.aload_n 0, 1) := gdX10_ripe_0.1
theorem dX10_ripe_1 : decode cX10_ripe 1 = .ok (.iload_n 1, 1) := gdX10_ripe_0.2.1
theorem dX10_ripe_2 : decode cX10_ripe 2 = .ok (.invokevirtual 133, 3) := gdX10_ripe_0.2.2.1
theorem dX10_ripe_5 : decode cX10_ripe 5 = .ok (.ifCond .eq 21, 3) := gdX10_ripe_0.2.2.2.1
theorem dX10_ripe_8 : decode cX10_ripe 8 = .ok (.aload_n 0, 1) := gdX10_ripe_0.2.2.2.2.1
theorem dX10_ripe_9 : decode cX10_ripe 9 = .ok (.iload_n 2, 1) := gdX10_ripe_0.2.2.2.2.2.1
theorem dX10_ripe_10 : decode cX10_ripe 10 = .ok (.invokevirtual 133, 3) := gdX10_ripe_0.2.2.2.2.2.2.1
theorem dX10_ripe_13 : decode cX10_ripe 13 = .ok (.ifCond .eq 13, 3) := gdX10_ripe_0.2.2.2.2.2.2.2.1
theorem dX10_ripe_16 : decode cX10_ripe 16 = .ok (.iload_n 3, 1) := gdX10_ripe_0.2.2.2.2.2.2.2.2.1
theorem dX10_ripe_17 : decode cX10_ripe 17 = .ok (.iconst 0, 1) := gdX10_ripe_0.2.2.2.2.2.2.2.2.2.1
theorem dX10_ripe_18 : decode cX10_ripe 18 = .ok (.bipush 16, 2) := gdX10_ripe_0.2.2.2.2.2.2.2.2.2.2.1
theorem dX10_ripe_20 : decode cX10_ripe 20 = .ok (.invokestatic 91, 3) := gdX10_ripe_0.2.2.2.2.2.2.2.2.2.2.2.1
theorem dX10_ripe_23 : decode cX10_ripe 23 = .ok (.ifCond .ne 5, 3) := gdX10_ripe_0.2.2.2.2.2.2.2.2.2.2.2.2.1
theorem dX10_ripe_26 : decode cX10_ripe 26 = .ok (.iconst (-1), 1) := gdX10_ripe_0.2.2.2.2.2.2.2.2.2.2.2.2.2.1
theorem dX10_ripe_27 : decode cX10_ripe 27 = .ok (.ireturn, 1) := gdX10_ripe_0.2.2.2.2.2.2.2.2.2.2.2.2.2.2.1
theorem dX10_ripe_28 : decode cX10_ripe 28 = .ok (.iload 4, 2) := gdX10_ripe_0.2.2.2.2.2.2.2.2.2.2.2.2.2.2.2
theorem gdX10_ripe_30 : (decode cX10_ripe 30 = .ok (.iconst 0, 1)) ∧ (decode cX10_ripe 31 = .ok (.sipush 999, 3)) ∧ (decode cX10_ripe 34 = .ok (.invokestatic 91, 3)) ∧ (decode cX10_ripe 37 = .ok (.ifCond .eq 16, 3)) ∧ (decode cX10_ripe 40 = .ok (.iload 5, 2)) ∧ (decode cX10_ripe 42 = .ok (.iload 4, 2)) ∧ (decode cX10_ripe 44 = .ok (.sipush 999, 3)) ∧ (decode cX10_ripe 47 = .ok (.invokestatic 91, 3)) ∧ (decode cX10_ripe 50 = .ok (.ifCond .ne 5, 3)) ∧ (decode cX10_ripe 53 = .ok (.iconst (-1), 1)) ∧ (decode cX10_ripe 54 = .ok (.ireturn, 1)) ∧ (decode cX10_ripe 55 = .ok (.aload_n 0, 1)) ∧ (decode cX10_ripe 56 = .ok (.getfield 75, 3)) ∧ (decode cX10_ripe 59 = .ok (.aload_n 0, 1)) ∧ (decode cX10_ripe 60 = .ok (.getfield 19, 3)) ∧ (decode cX10_ripe 63 = .ok (.getfield 102, 3)) := by decide +kernel
theorem dX10_ripe_30 : decode cX10_ripe 30 = .ok (.iconst 0, 1) := gdX10_ripe_30.1
theorem dX10_ripe_31 : decode cX10_ripe 31 = .ok (.sipush 999, 3) := gdX10_ripe_30.2.1
theorem dX10_ripe_34 : decode cX10_ripe 34 = .ok (.invokestatic 91, 3) := gdX10_ripe_30.2.2.1
theorem dX10_ripe_37 : decode cX10_ripe 37 = .ok (.ifCond .eq 16, 3) := gdX10_ripe_30.2.2.2.1
theorem dX10_ripe_40 : decode cX10_ripe 40 = .ok (.iload 5, 2) := gdX10_ripe_30.2.2.2.2.1
theorem dX10_ripe_42 : decode cX10_ripe 42 = .ok (.iload 4, 2) := gdX10_ripe_30.2.2.2.2.2.1
theorem dX10_ripe_44 : decode cX10_ripe 44 = .ok (.sipush 999, 3) := gdX10_ripe_30.2.2.2.2.2.2.1
theorem dX10_ripe_47 : decode cX10_ripe 47 = .ok (.invokestatic 91, 3) := gdX10_ripe_30.2.2.2.2.2.2.2.1
theorem dX10_ripe_50 : decode cX10_ripe 50 = .ok (.ifCond .ne 5, 3) := gdX10_ripe_30.2.2.2.2.2.2.2.2.1
theorem dX10_ripe_53 : decode cX10_ripe 53 = .ok (.iconst (-1), 1) := gdX10_ripe_30.2.2.2.2.2.2.2.2.2.1
theorem dX10_ripe_54 : decode cX10_ripe 54 = .ok (.ireturn, 1) := gdX10_ripe_30.2.2.2.2.2.2.2.2.2.2.1
theorem dX10_ripe_55 : decode cX10_ripe 55 = .ok (.aload_n 0, 1) := gdX10_ripe_30.2.2.2.2.2.2.2.2.2.2.2.1
theorem dX10_ripe_56 : decode cX10_ripe 56 = .ok (.getfield 75, 3) := gdX10_ripe_30.2.2.2.2.2.2.2.2.2.2.2.2.1
theorem dX10_ripe_59 : decode cX10_ripe 59 = .ok (.aload_n 0, 1) := gdX10_ripe_30.2.2.2.2.2.2.2.2.2.2.2.2.2.1
theorem dX10_ripe_60 : decode cX10_ripe 60 = .ok (.getfield 19, 3) := gdX10_ripe_30.2.2.2.2.2.2.2.2.2.2.2.2.2.2.1
theorem dX10_ripe_63 : decode cX10_ripe 63 = .ok (.getfield 102, 3) := gdX10_ripe_30.2.2.2.2.2.2.2.2.2.2.2.2.2.2.2
theorem gdX10_ripe_66 : (decode cX10_ripe 66 = .ok (.iload_n 1, 1)) ∧ (decode cX10_ripe 67 = .ok (.iload_n 3, 1)) ∧ (decode cX10_ripe 68 = .ok (.invokevirtual 261, 3)) ∧ (decode cX10_ripe 71 = .ok (.ifCond .ne 6, 3)) ∧ (decode cX10_ripe 74 = .ok (.bipush (-3), 2)) ∧ (decode cX10_ripe 76 = .ok (.ireturn, 1)) ∧ (decode cX10_ripe 77 = .ok (.aload_n 0, 1)) ∧ (decode cX10_ripe 78 = .ok (.getfield 75, 3)) ∧ (decode cX10_ripe 81 = .ok (.aload_n 0, 1)) ∧ (decode cX10_ripe 82 = .ok (.getfield 19, 3)) ∧ (decode cX10_ripe 85 = .ok (.getfield 102, 3)) ∧ (decode cX10_ripe 88 = .ok (.iload_n 2, 1)) ∧ (decode cX10_ripe 89 = .ok (.iload_n 3, 1)) ∧ (decode cX10_ripe 90 = .ok (.iload 4, 2)) ∧ (decode cX10_ripe 92 = .ok (.i2l, 1)) ∧ (decode cX10_ripe 93 = .ok (.ldc2_w 145, 3)) := by decide +kernel
theorem dX10_ripe_66 : decode cX10_ripe 66 = .ok (.iload_n 1, 1) := gdX10_ripe_66.1
theorem dX10_ripe_67 : decode cX10_ripe 67 = .ok (.iload_n 3, 1) := gdX10_ripe_66.2.1
theorem dX10_ripe_68 : decode cX10_ripe 68 = .ok (.invokevirtual 261, 3) := gdX10_ripe_66.2.2.1
theorem dX10_ripe_71 : decode cX10_ripe 71 = .ok (.ifCond .ne 6, 3) := gdX10_ripe_66.2.2.2.1
theorem dX10_ripe_74 : decode cX10_ripe 74 = .ok (.bipush (-3), 2) := gdX10_ripe_66.2.2.2.2.1
theorem dX10_ripe_76 : decode cX10_ripe 76 = .ok (.ireturn, 1) := gdX10_ripe_66.2.2.2.2.2.1
theorem dX10_ripe_77 : decode cX10_ripe 77 = .ok (.aload_n 0, 1) := gdX10_ripe_66.2.2.2.2.2.2.1
theorem dX10_ripe_78 : decode cX10_ripe 78 = .ok (.getfield 75, 3) := gdX10_ripe_66.2.2.2.2.2.2.2.1
theorem dX10_ripe_81 : decode cX10_ripe 81 = .ok (.aload_n 0, 1) := gdX10_ripe_66.2.2.2.2.2.2.2.2.1
theorem dX10_ripe_82 : decode cX10_ripe 82 = .ok (.getfield 19, 3) := gdX10_ripe_66.2.2.2.2.2.2.2.2.2.1
theorem dX10_ripe_85 : decode cX10_ripe 85 = .ok (.getfield 102, 3) := gdX10_ripe_66.2.2.2.2.2.2.2.2.2.2.1
theorem dX10_ripe_88 : decode cX10_ripe 88 = .ok (.iload_n 2, 1) := gdX10_ripe_66.2.2.2.2.2.2.2.2.2.2.2.1
theorem dX10_ripe_89 : decode cX10_ripe 89 = .ok (.iload_n 3, 1) := gdX10_ripe_66.2.2.2.2.2.2.2.2.2.2.2.2.1
theorem dX10_ripe_90 : decode cX10_ripe 90 = .ok (.iload 4, 2) := gdX10_ripe_66.2.2.2.2.2.2.2.2.2.2.2.2.2.1
theorem dX10_ripe_92 : decode cX10_ripe 92 = .ok (.i2l, 1) := gdX10_ripe_66.2.2.2.2.2.2.2.2.2.2.2.2.2.2.1
theorem dX10_ripe_93 : decode cX10_ripe 93 = .ok (.ldc2_w 145, 3) := gdX10_ripe_66.2.2.2.2.2.2.2.2.2.2.2.2.2.2.2
theorem gdX10_ripe_96 : (decode cX10_ripe 96 = .ok (.lmul, 1)) ∧ (decode cX10_ripe 97 = .ok (.iload 5, 2)) ∧ (decode cX10_ripe 99 = .ok (.i2l, 1)) ∧ (decode cX10_ripe 100 = .ok (.ldc2_w 145, 3)) ∧ (decode cX10_ripe 103 = .ok (.lmul, 1)) ∧ (decode cX10_ripe 104 = .ok (.invokevirtual 264, 3)) ∧ (decode cX10_ripe 107 = .ok (.ireturn, 1)) := by decide +kernel
theorem dX10_ripe_96 : decode cX10_ripe 96 = .ok (.lmul, 1) := gdX10_ripe_96.1
theorem dX10_ripe_97 : decode cX10_ripe 97 = .ok (.iload 5, 2) := gdX10_ripe_96.2.1
theorem dX10_ripe_99 : decode cX10_ripe 99 = .ok (.i2l, 1) := gdX10_ripe_96.2.2.1
theorem dX10_ripe_100 : decode cX10_ripe 100 = .ok (.ldc2_w 145, 3) := gdX10_ripe_96.2.2.2.1
theorem dX10_ripe_103 : decode cX10_ripe 103 = .ok (.lmul, 1) := gdX10_ripe_96.2.2.2.2.1
theorem dX10_ripe_104 : decode cX10_ripe 104 = .ok (.invokevirtual 264, 3) := gdX10_ripe_96.2.2.2.2.2.1
theorem dX10_ripe_107 : decode cX10_ripe 107 = .ok (.ireturn, 1) := gdX10_ripe_96.2.2.2.2.2.2
theorem gdX10_owed_0 : (decode cX10_owed 0 = .ok (.aload_n 0, 1)) ∧ (decode cX10_owed 1 = .ok (.iload_n 1, 1)) ∧ (decode cX10_owed 2 = .ok (.invokevirtual 133, 3)) ∧ (decode cX10_owed 5 = .ok (.ifCond .eq 25, 3)) ∧ (decode cX10_owed 8 = .ok (.iload_n 2, 1)) ∧ (decode cX10_owed 9 = .ok (.iconst 1, 1)) ∧ (decode cX10_owed 10 = .ok (.sipush 9999, 3)) ∧ (decode cX10_owed 13 = .ok (.invokestatic 91, 3)) ∧ (decode cX10_owed 16 = .ok (.ifCond .eq 14, 3)) ∧ (decode cX10_owed 19 = .ok (.iload_n 3, 1)) ∧ (decode cX10_owed 20 = .ok (.iconst 0, 1)) ∧ (decode cX10_owed 21 = .ok (.sipush 999, 3)) ∧ (decode cX10_owed 24 = .ok (.invokestatic 91, 3)) ∧ (decode cX10_owed 27 = .ok (.ifCond .ne 7, 3)) ∧ (decode cX10_owed 30 = .ok (.ldc2_w 185, 3)) ∧ (decode cX10_owed 33 = .ok (.lreturn, 1)) := by decide +kernel
theorem dX10_owed_0 : decode cX10_owed 0 = .ok (.aload_n 0, 1) := gdX10_owed_0.1
theorem dX10_owed_1 : decode cX10_owed 1 = .ok (.iload_n 1, 1) := gdX10_owed_0.2.1
theorem dX10_owed_2 : decode cX10_owed 2 = .ok (.invokevirtual 133, 3) := gdX10_owed_0.2.2.1
theorem dX10_owed_5 : decode cX10_owed 5 = .ok (.ifCond .eq 25, 3) := gdX10_owed_0.2.2.2.1
theorem dX10_owed_8 : decode cX10_owed 8 = .ok (.iload_n 2, 1) := gdX10_owed_0.2.2.2.2.1
theorem dX10_owed_9 : decode cX10_owed 9 = .ok (.iconst 1, 1) := gdX10_owed_0.2.2.2.2.2.1
theorem dX10_owed_10 : decode cX10_owed 10 = .ok (.sipush 9999, 3) := gdX10_owed_0.2.2.2.2.2.2.1
theorem dX10_owed_13 : decode cX10_owed 13 = .ok (.invokestatic 91, 3) := gdX10_owed_0.2.2.2.2.2.2.2.1
theorem dX10_owed_16 : decode cX10_owed 16 = .ok (.ifCond .eq 14, 3) := gdX10_owed_0.2.2.2.2.2.2.2.2.1
theorem dX10_owed_19 : decode cX10_owed 19 = .ok (.iload_n 3, 1) := gdX10_owed_0.2.2.2.2.2.2.2.2.2.1
theorem dX10_owed_20 : decode cX10_owed 20 = .ok (.iconst 0, 1) := gdX10_owed_0.2.2.2.2.2.2.2.2.2.2.1
theorem dX10_owed_21 : decode cX10_owed 21 = .ok (.sipush 999, 3) := gdX10_owed_0.2.2.2.2.2.2.2.2.2.2.2.1
theorem dX10_owed_24 : decode cX10_owed 24 = .ok (.invokestatic 91, 3) := gdX10_owed_0.2.2.2.2.2.2.2.2.2.2.2.2.1
theorem dX10_owed_27 : decode cX10_owed 27 = .ok (.ifCond .ne 7, 3) := gdX10_owed_0.2.2.2.2.2.2.2.2.2.2.2.2.2.1
theorem dX10_owed_30 : decode cX10_owed 30 = .ok (.ldc2_w 185, 3) := gdX10_owed_0.2.2.2.2.2.2.2.2.2.2.2.2.2.2.1
theorem dX10_owed_33 : decode cX10_owed 33 = .ok (.lreturn, 1) := gdX10_owed_0.2.2.2.2.2.2.2.2.2.2.2.2.2.2.2
theorem gdX10_owed_34 : (decode cX10_owed 34 = .ok (.iload 4, 2)) ∧ (decode cX10_owed 36 = .ok (.invokestatic 229, 3)) ∧ (decode cX10_owed 39 = .ok (.ifCond .eq 11, 3)) ∧ (decode cX10_owed 42 = .ok (.iload 5, 2)) ∧ (decode cX10_owed 44 = .ok (.invokestatic 182, 3)) ∧ (decode cX10_owed 47 = .ok (.ifCond .ne 7, 3)) ∧ (decode cX10_owed 50 = .ok (.ldc2_w 185, 3)) ∧ (decode cX10_owed 53 = .ok (.lreturn, 1)) ∧ (decode cX10_owed 54 = .ok (.aload_n 0, 1)) ∧ (decode cX10_owed 55 = .ok (.getfield 19, 3)) ∧ (decode cX10_owed 58 = .ok (.getfield 102, 3)) ∧ (decode cX10_owed 61 = .ok (.getfield 141, 3)) ∧ (decode cX10_owed 64 = .ok (.iload_n 1, 1)) ∧ (decode cX10_owed 65 = .ok (.laload, 1)) ∧ (decode cX10_owed 66 = .ok (.ldc2_w 145, 3)) ∧ (decode cX10_owed 69 = .ok (.iconst 0, 1)) := by decide +kernel
theorem dX10_owed_34 : decode cX10_owed 34 = .ok (.iload 4, 2) := gdX10_owed_34.1
theorem dX10_owed_36 : decode cX10_owed 36 = .ok (.invokestatic 229, 3) := gdX10_owed_34.2.1
theorem dX10_owed_39 : decode cX10_owed 39 = .ok (.ifCond .eq 11, 3) := gdX10_owed_34.2.2.1
theorem dX10_owed_42 : decode cX10_owed 42 = .ok (.iload 5, 2) := gdX10_owed_34.2.2.2.1
theorem dX10_owed_44 : decode cX10_owed 44 = .ok (.invokestatic 182, 3) := gdX10_owed_34.2.2.2.2.1
theorem dX10_owed_47 : decode cX10_owed 47 = .ok (.ifCond .ne 7, 3) := gdX10_owed_34.2.2.2.2.2.1
theorem dX10_owed_50 : decode cX10_owed 50 = .ok (.ldc2_w 185, 3) := gdX10_owed_34.2.2.2.2.2.2.1
theorem dX10_owed_53 : decode cX10_owed 53 = .ok (.lreturn, 1) := gdX10_owed_34.2.2.2.2.2.2.2.1
theorem dX10_owed_54 : decode cX10_owed 54 = .ok (.aload_n 0, 1) := gdX10_owed_34.2.2.2.2.2.2.2.2.1
theorem dX10_owed_55 : decode cX10_owed 55 = .ok (.getfield 19, 3) := gdX10_owed_34.2.2.2.2.2.2.2.2.2.1
theorem dX10_owed_58 : decode cX10_owed 58 = .ok (.getfield 102, 3) := gdX10_owed_34.2.2.2.2.2.2.2.2.2.2.1
theorem dX10_owed_61 : decode cX10_owed 61 = .ok (.getfield 141, 3) := gdX10_owed_34.2.2.2.2.2.2.2.2.2.2.2.1
theorem dX10_owed_64 : decode cX10_owed 64 = .ok (.iload_n 1, 1) := gdX10_owed_34.2.2.2.2.2.2.2.2.2.2.2.2.1
theorem dX10_owed_65 : decode cX10_owed 65 = .ok (.laload, 1) := gdX10_owed_34.2.2.2.2.2.2.2.2.2.2.2.2.2.1
theorem dX10_owed_66 : decode cX10_owed 66 = .ok (.ldc2_w 145, 3) := gdX10_owed_34.2.2.2.2.2.2.2.2.2.2.2.2.2.2.1
theorem dX10_owed_69 : decode cX10_owed 69 = .ok (.iconst 0, 1) := gdX10_owed_34.2.2.2.2.2.2.2.2.2.2.2.2.2.2.2
theorem gdX10_owed_70 : (decode cX10_owed 70 = .ok (.invokestatic 147, 3)) ∧ (decode cX10_owed 73 = .ok (.lstore 6, 2)) ∧ (decode cX10_owed 75 = .ok (.ldc2_w 268, 3)) ∧ (decode cX10_owed 78 = .ok (.aload_n 0, 1)) ∧ (decode cX10_owed 79 = .ok (.getfield 19, 3)) ∧ (decode cX10_owed 82 = .ok (.getfield 102, 3)) ∧ (decode cX10_owed 85 = .ok (.getfield 141, 3)) ∧ (decode cX10_owed 88 = .ok (.iload_n 1, 1)) ∧ (decode cX10_owed 89 = .ok (.laload, 1)) ∧ (decode cX10_owed 90 = .ok (.ldc2_w 145, 3)) ∧ (decode cX10_owed 93 = .ok (.iconst 1, 1)) ∧ (decode cX10_owed 94 = .ok (.invokestatic 147, 3)) ∧ (decode cX10_owed 97 = .ok (.lmul, 1)) ∧ (decode cX10_owed 98 = .ok (.lstore 8, 2)) ∧ (decode cX10_owed 100 = .ok (.iload_n 2, 1)) ∧ (decode cX10_owed 101 = .ok (.i2l, 1)) := by decide +kernel
theorem dX10_owed_70 : decode cX10_owed 70 = .ok (.invokestatic 147, 3) := gdX10_owed_70.1
theorem dX10_owed_73 : decode cX10_owed 73 = .ok (.lstore 6, 2) := gdX10_owed_70.2.1
theorem dX10_owed_75 : decode cX10_owed 75 = .ok (.ldc2_w 268, 3) := gdX10_owed_70.2.2.1
theorem dX10_owed_78 : decode cX10_owed 78 = .ok (.aload_n 0, 1) := gdX10_owed_70.2.2.2.1
theorem dX10_owed_79 : decode cX10_owed 79 = .ok (.getfield 19, 3) := gdX10_owed_70.2.2.2.2.1
theorem dX10_owed_82 : decode cX10_owed 82 = .ok (.getfield 102, 3) := gdX10_owed_70.2.2.2.2.2.1
theorem dX10_owed_85 : decode cX10_owed 85 = .ok (.getfield 141, 3) := gdX10_owed_70.2.2.2.2.2.2.1
theorem dX10_owed_88 : decode cX10_owed 88 = .ok (.iload_n 1, 1) := gdX10_owed_70.2.2.2.2.2.2.2.1
theorem dX10_owed_89 : decode cX10_owed 89 = .ok (.laload, 1) := gdX10_owed_70.2.2.2.2.2.2.2.2.1
theorem dX10_owed_90 : decode cX10_owed 90 = .ok (.ldc2_w 145, 3) := gdX10_owed_70.2.2.2.2.2.2.2.2.2.1
theorem dX10_owed_93 : decode cX10_owed 93 = .ok (.iconst 1, 1) := gdX10_owed_70.2.2.2.2.2.2.2.2.2.2.1
theorem dX10_owed_94 : decode cX10_owed 94 = .ok (.invokestatic 147, 3) := gdX10_owed_70.2.2.2.2.2.2.2.2.2.2.2.1
theorem dX10_owed_97 : decode cX10_owed 97 = .ok (.lmul, 1) := gdX10_owed_70.2.2.2.2.2.2.2.2.2.2.2.2.1
theorem dX10_owed_98 : decode cX10_owed 98 = .ok (.lstore 8, 2) := gdX10_owed_70.2.2.2.2.2.2.2.2.2.2.2.2.2.1
theorem dX10_owed_100 : decode cX10_owed 100 = .ok (.iload_n 2, 1) := gdX10_owed_70.2.2.2.2.2.2.2.2.2.2.2.2.2.2.1
theorem dX10_owed_101 : decode cX10_owed 101 = .ok (.i2l, 1) := gdX10_owed_70.2.2.2.2.2.2.2.2.2.2.2.2.2.2.2
theorem gdX10_owed_102 : (decode cX10_owed 102 = .ok (.lload 8, 2)) ∧ (decode cX10_owed 104 = .ok (.iload_n 3, 1)) ∧ (decode cX10_owed 105 = .ok (.i2l, 1)) ∧ (decode cX10_owed 106 = .ok (.lload 6, 2)) ∧ (decode cX10_owed 108 = .ok (.lmul, 1)) ∧ (decode cX10_owed 109 = .ok (.iload 4, 2)) ∧ (decode cX10_owed 111 = .ok (.i2l, 1)) ∧ (decode cX10_owed 112 = .ok (.lmul, 1)) ∧ (decode cX10_owed 113 = .ok (.ladd, 1)) ∧ (decode cX10_owed 114 = .ok (.lmul, 1)) ∧ (decode cX10_owed 115 = .ok (.lload 8, 2)) ∧ (decode cX10_owed 117 = .ok (.iload 5, 2)) ∧ (decode cX10_owed 119 = .ok (.invokestatic 147, 3)) ∧ (decode cX10_owed 122 = .ok (.lreturn, 1)) := by decide +kernel
theorem dX10_owed_102 : decode cX10_owed 102 = .ok (.lload 8, 2) := gdX10_owed_102.1
theorem dX10_owed_104 : decode cX10_owed 104 = .ok (.iload_n 3, 1) := gdX10_owed_102.2.1
theorem dX10_owed_105 : decode cX10_owed 105 = .ok (.i2l, 1) := gdX10_owed_102.2.2.1
theorem dX10_owed_106 : decode cX10_owed 106 = .ok (.lload 6, 2) := gdX10_owed_102.2.2.2.1
theorem dX10_owed_108 : decode cX10_owed 108 = .ok (.lmul, 1) := gdX10_owed_102.2.2.2.2.1
theorem dX10_owed_109 : decode cX10_owed 109 = .ok (.iload 4, 2) := gdX10_owed_102.2.2.2.2.2.1
theorem dX10_owed_111 : decode cX10_owed 111 = .ok (.i2l, 1) := gdX10_owed_102.2.2.2.2.2.2.1
theorem dX10_owed_112 : decode cX10_owed 112 = .ok (.lmul, 1) := gdX10_owed_102.2.2.2.2.2.2.2.1
theorem dX10_owed_113 : decode cX10_owed 113 = .ok (.ladd, 1) := gdX10_owed_102.2.2.2.2.2.2.2.2.1
theorem dX10_owed_114 : decode cX10_owed 114 = .ok (.lmul, 1) := gdX10_owed_102.2.2.2.2.2.2.2.2.2.1
theorem dX10_owed_115 : decode cX10_owed 115 = .ok (.lload 8, 2) := gdX10_owed_102.2.2.2.2.2.2.2.2.2.2.1
theorem dX10_owed_117 : decode cX10_owed 117 = .ok (.iload 5, 2) := gdX10_owed_102.2.2.2.2.2.2.2.2.2.2.2.1
theorem dX10_owed_119 : decode cX10_owed 119 = .ok (.invokestatic 147, 3) := gdX10_owed_102.2.2.2.2.2.2.2.2.2.2.2.2.1
theorem dX10_owed_122 : decode cX10_owed 122 = .ok (.lreturn, 1) := gdX10_owed_102.2.2.2.2.2.2.2.2.2.2.2.2.2
theorem gdX10_hands_0 : (decode cX10_hands 0 = .ok (.aload_n 0, 1)) ∧ (decode cX10_hands 1 = .ok (.iload_n 1, 1)) ∧ (decode cX10_hands 2 = .ok (.invokevirtual 133, 3)) ∧ (decode cX10_hands 5 = .ok (.ifCond .eq 34, 3)) ∧ (decode cX10_hands 8 = .ok (.aload_n 0, 1)) ∧ (decode cX10_hands 9 = .ok (.iload_n 2, 1)) ∧ (decode cX10_hands 10 = .ok (.invokevirtual 133, 3)) ∧ (decode cX10_hands 13 = .ok (.ifCond .eq 26, 3)) ∧ (decode cX10_hands 16 = .ok (.iload_n 3, 1)) ∧ (decode cX10_hands 17 = .ok (.iconst 1, 1)) ∧ (decode cX10_hands 18 = .ok (.sipush 9999, 3)) ∧ (decode cX10_hands 21 = .ok (.invokestatic 91, 3)) ∧ (decode cX10_hands 24 = .ok (.ifCond .eq 15, 3)) ∧ (decode cX10_hands 27 = .ok (.iload 4, 2)) ∧ (decode cX10_hands 29 = .ok (.iconst 1, 1)) ∧ (decode cX10_hands 30 = .ok (.sipush 9999, 3)) := by decide +kernel
theorem dX10_hands_0 : decode cX10_hands 0 = .ok (.aload_n 0, 1) := gdX10_hands_0.1
theorem dX10_hands_1 : decode cX10_hands 1 = .ok (.iload_n 1, 1) := gdX10_hands_0.2.1
theorem dX10_hands_2 : decode cX10_hands 2 = .ok (.invokevirtual 133, 3) := gdX10_hands_0.2.2.1
theorem dX10_hands_5 : decode cX10_hands 5 = .ok (.ifCond .eq 34, 3) := gdX10_hands_0.2.2.2.1
theorem dX10_hands_8 : decode cX10_hands 8 = .ok (.aload_n 0, 1) := gdX10_hands_0.2.2.2.2.1
theorem dX10_hands_9 : decode cX10_hands 9 = .ok (.iload_n 2, 1) := gdX10_hands_0.2.2.2.2.2.1
theorem dX10_hands_10 : decode cX10_hands 10 = .ok (.invokevirtual 133, 3) := gdX10_hands_0.2.2.2.2.2.2.1
theorem dX10_hands_13 : decode cX10_hands 13 = .ok (.ifCond .eq 26, 3) := gdX10_hands_0.2.2.2.2.2.2.2.1
theorem dX10_hands_16 : decode cX10_hands 16 = .ok (.iload_n 3, 1) := gdX10_hands_0.2.2.2.2.2.2.2.2.1
theorem dX10_hands_17 : decode cX10_hands 17 = .ok (.iconst 1, 1) := gdX10_hands_0.2.2.2.2.2.2.2.2.2.1
theorem dX10_hands_18 : decode cX10_hands 18 = .ok (.sipush 9999, 3) := gdX10_hands_0.2.2.2.2.2.2.2.2.2.2.1
theorem dX10_hands_21 : decode cX10_hands 21 = .ok (.invokestatic 91, 3) := gdX10_hands_0.2.2.2.2.2.2.2.2.2.2.2.1
theorem dX10_hands_24 : decode cX10_hands 24 = .ok (.ifCond .eq 15, 3) := gdX10_hands_0.2.2.2.2.2.2.2.2.2.2.2.2.1
theorem dX10_hands_27 : decode cX10_hands 27 = .ok (.iload 4, 2) := gdX10_hands_0.2.2.2.2.2.2.2.2.2.2.2.2.2.1
theorem dX10_hands_29 : decode cX10_hands 29 = .ok (.iconst 1, 1) := gdX10_hands_0.2.2.2.2.2.2.2.2.2.2.2.2.2.2.1
theorem dX10_hands_30 : decode cX10_hands 30 = .ok (.sipush 9999, 3) := gdX10_hands_0.2.2.2.2.2.2.2.2.2.2.2.2.2.2.2
theorem gdX10_hands_33 : (decode cX10_hands 33 = .ok (.invokestatic 91, 3)) ∧ (decode cX10_hands 36 = .ok (.ifCond .ne 5, 3)) ∧ (decode cX10_hands 39 = .ok (.iconst (-1), 1)) ∧ (decode cX10_hands 40 = .ok (.ireturn, 1)) ∧ (decode cX10_hands 41 = .ok (.iload_n 3, 1)) ∧ (decode cX10_hands 42 = .ok (.i2l, 1)) ∧ (decode cX10_hands 43 = .ok (.aload_n 0, 1)) ∧ (decode cX10_hands 44 = .ok (.getfield 19, 3)) ∧ (decode cX10_hands 47 = .ok (.getfield 102, 3)) ∧ (decode cX10_hands 50 = .ok (.getfield 141, 3)) ∧ (decode cX10_hands 53 = .ok (.iload_n 2, 1)) ∧ (decode cX10_hands 54 = .ok (.laload, 1)) ∧ (decode cX10_hands 55 = .ok (.lmul, 1)) ∧ (decode cX10_hands 56 = .ok (.iload 4, 2)) ∧ (decode cX10_hands 58 = .ok (.i2l, 1)) ∧ (decode cX10_hands 59 = .ok (.aload_n 0, 1)) := by decide +kernel
theorem dX10_hands_33 : decode cX10_hands 33 = .ok (.invokestatic 91, 3) := gdX10_hands_33.1
theorem dX10_hands_36 : decode cX10_hands 36 = .ok (.ifCond .ne 5, 3) := gdX10_hands_33.2.1
theorem dX10_hands_39 : decode cX10_hands 39 = .ok (.iconst (-1), 1) := gdX10_hands_33.2.2.1
theorem dX10_hands_40 : decode cX10_hands 40 = .ok (.ireturn, 1) := gdX10_hands_33.2.2.2.1
theorem dX10_hands_41 : decode cX10_hands 41 = .ok (.iload_n 3, 1) := gdX10_hands_33.2.2.2.2.1
theorem dX10_hands_42 : decode cX10_hands 42 = .ok (.i2l, 1) := gdX10_hands_33.2.2.2.2.2.1
theorem dX10_hands_43 : decode cX10_hands 43 = .ok (.aload_n 0, 1) := gdX10_hands_33.2.2.2.2.2.2.1
theorem dX10_hands_44 : decode cX10_hands 44 = .ok (.getfield 19, 3) := gdX10_hands_33.2.2.2.2.2.2.2.1
theorem dX10_hands_47 : decode cX10_hands 47 = .ok (.getfield 102, 3) := gdX10_hands_33.2.2.2.2.2.2.2.2.1
theorem dX10_hands_50 : decode cX10_hands 50 = .ok (.getfield 141, 3) := gdX10_hands_33.2.2.2.2.2.2.2.2.2.1
theorem dX10_hands_53 : decode cX10_hands 53 = .ok (.iload_n 2, 1) := gdX10_hands_33.2.2.2.2.2.2.2.2.2.2.1
theorem dX10_hands_54 : decode cX10_hands 54 = .ok (.laload, 1) := gdX10_hands_33.2.2.2.2.2.2.2.2.2.2.2.1
theorem dX10_hands_55 : decode cX10_hands 55 = .ok (.lmul, 1) := gdX10_hands_33.2.2.2.2.2.2.2.2.2.2.2.2.1
theorem dX10_hands_56 : decode cX10_hands 56 = .ok (.iload 4, 2) := gdX10_hands_33.2.2.2.2.2.2.2.2.2.2.2.2.2.1
theorem dX10_hands_58 : decode cX10_hands 58 = .ok (.i2l, 1) := gdX10_hands_33.2.2.2.2.2.2.2.2.2.2.2.2.2.2.1
theorem dX10_hands_59 : decode cX10_hands 59 = .ok (.aload_n 0, 1) := gdX10_hands_33.2.2.2.2.2.2.2.2.2.2.2.2.2.2.2
theorem gdX10_hands_60 : (decode cX10_hands 60 = .ok (.getfield 19, 3)) ∧ (decode cX10_hands 63 = .ok (.getfield 102, 3)) ∧ (decode cX10_hands 66 = .ok (.getfield 141, 3)) ∧ (decode cX10_hands 69 = .ok (.iload_n 1, 1)) ∧ (decode cX10_hands 70 = .ok (.laload, 1)) ∧ (decode cX10_hands 71 = .ok (.lmul, 1)) ∧ (decode cX10_hands 72 = .ok (.invokestatic 270, 3)) ∧ (decode cX10_hands 75 = .ok (.l2i, 1)) ∧ (decode cX10_hands 76 = .ok (.ireturn, 1)) := by decide +kernel
theorem dX10_hands_60 : decode cX10_hands 60 = .ok (.getfield 19, 3) := gdX10_hands_60.1
theorem dX10_hands_63 : decode cX10_hands 63 = .ok (.getfield 102, 3) := gdX10_hands_60.2.1
theorem dX10_hands_66 : decode cX10_hands 66 = .ok (.getfield 141, 3) := gdX10_hands_60.2.2.1
theorem dX10_hands_69 : decode cX10_hands 69 = .ok (.iload_n 1, 1) := gdX10_hands_60.2.2.2.1
theorem dX10_hands_70 : decode cX10_hands 70 = .ok (.laload, 1) := gdX10_hands_60.2.2.2.2.1
theorem dX10_hands_71 : decode cX10_hands 71 = .ok (.lmul, 1) := gdX10_hands_60.2.2.2.2.2.1
theorem dX10_hands_72 : decode cX10_hands 72 = .ok (.invokestatic 270, 3) := gdX10_hands_60.2.2.2.2.2.2.1
theorem dX10_hands_75 : decode cX10_hands 75 = .ok (.l2i, 1) := gdX10_hands_60.2.2.2.2.2.2.2.1
theorem dX10_hands_76 : decode cX10_hands 76 = .ok (.ireturn, 1) := gdX10_hands_60.2.2.2.2.2.2.2.2
theorem gdX10_waiting_0 : (decode cX10_waiting 0 = .ok (.aload_n 0, 1)) ∧ (decode cX10_waiting 1 = .ok (.iload_n 1, 1)) ∧ (decode cX10_waiting 2 = .ok (.invokevirtual 190, 3)) ∧ (decode cX10_waiting 5 = .ok (.ifCond .eq 13, 3)) ∧ (decode cX10_waiting 8 = .ok (.iload_n 2, 1)) ∧ (decode cX10_waiting 9 = .ok (.iconst 0, 1)) ∧ (decode cX10_waiting 10 = .ok (.bipush 120, 2)) ∧ (decode cX10_waiting 12 = .ok (.invokestatic 91, 3)) ∧ (decode cX10_waiting 15 = .ok (.ifCond .ne 5, 3)) ∧ (decode cX10_waiting 18 = .ok (.iconst (-1), 1)) ∧ (decode cX10_waiting 19 = .ok (.ireturn, 1)) ∧ (decode cX10_waiting 20 = .ok (.aload_n 0, 1)) ∧ (decode cX10_waiting 21 = .ok (.getfield 68, 3)) ∧ (decode cX10_waiting 24 = .ok (.aload_n 0, 1)) ∧ (decode cX10_waiting 25 = .ok (.getfield 19, 3)) ∧ (decode cX10_waiting 28 = .ok (.getfield 102, 3)) := by decide +kernel
theorem dX10_waiting_0 : decode cX10_waiting 0 = .ok (.aload_n 0, 1) := gdX10_waiting_0.1
theorem dX10_waiting_1 : decode cX10_waiting 1 = .ok (.iload_n 1, 1) := gdX10_waiting_0.2.1
theorem dX10_waiting_2 : decode cX10_waiting 2 = .ok (.invokevirtual 190, 3) := gdX10_waiting_0.2.2.1
theorem dX10_waiting_5 : decode cX10_waiting 5 = .ok (.ifCond .eq 13, 3) := gdX10_waiting_0.2.2.2.1
theorem dX10_waiting_8 : decode cX10_waiting 8 = .ok (.iload_n 2, 1) := gdX10_waiting_0.2.2.2.2.1
theorem dX10_waiting_9 : decode cX10_waiting 9 = .ok (.iconst 0, 1) := gdX10_waiting_0.2.2.2.2.2.1
theorem dX10_waiting_10 : decode cX10_waiting 10 = .ok (.bipush 120, 2) := gdX10_waiting_0.2.2.2.2.2.2.1
theorem dX10_waiting_12 : decode cX10_waiting 12 = .ok (.invokestatic 91, 3) := gdX10_waiting_0.2.2.2.2.2.2.2.1
theorem dX10_waiting_15 : decode cX10_waiting 15 = .ok (.ifCond .ne 5, 3) := gdX10_waiting_0.2.2.2.2.2.2.2.2.1
theorem dX10_waiting_18 : decode cX10_waiting 18 = .ok (.iconst (-1), 1) := gdX10_waiting_0.2.2.2.2.2.2.2.2.2.1
theorem dX10_waiting_19 : decode cX10_waiting 19 = .ok (.ireturn, 1) := gdX10_waiting_0.2.2.2.2.2.2.2.2.2.2.1
theorem dX10_waiting_20 : decode cX10_waiting 20 = .ok (.aload_n 0, 1) := gdX10_waiting_0.2.2.2.2.2.2.2.2.2.2.2.1
theorem dX10_waiting_21 : decode cX10_waiting 21 = .ok (.getfield 68, 3) := gdX10_waiting_0.2.2.2.2.2.2.2.2.2.2.2.2.1
theorem dX10_waiting_24 : decode cX10_waiting 24 = .ok (.aload_n 0, 1) := gdX10_waiting_0.2.2.2.2.2.2.2.2.2.2.2.2.2.1
theorem dX10_waiting_25 : decode cX10_waiting 25 = .ok (.getfield 19, 3) := gdX10_waiting_0.2.2.2.2.2.2.2.2.2.2.2.2.2.2.1
theorem dX10_waiting_28 : decode cX10_waiting 28 = .ok (.getfield 102, 3) := gdX10_waiting_0.2.2.2.2.2.2.2.2.2.2.2.2.2.2.2
theorem gdX10_waiting_31 : (decode cX10_waiting 31 = .ok (.aload_n 0, 1)) ∧ (decode cX10_waiting 32 = .ok (.getfield 19, 3)) ∧ (decode cX10_waiting 35 = .ok (.getfield 109, 3)) ∧ (decode cX10_waiting 38 = .ok (.getfield 170, 3)) ∧ (decode cX10_waiting 41 = .ok (.iload_n 1, 1)) ∧ (decode cX10_waiting 42 = .ok (.iaload, 1)) ∧ (decode cX10_waiting 43 = .ok (.iload_n 2, 1)) ∧ (decode cX10_waiting 44 = .ok (.iload_n 3, 1)) ∧ (decode cX10_waiting 45 = .ok (.invokevirtual 244, 3)) ∧ (decode cX10_waiting 48 = .ok (.aload_n 0, 1)) ∧ (decode cX10_waiting 49 = .ok (.getfield 68, 3)) ∧ (decode cX10_waiting 52 = .ok (.aload_n 0, 1)) ∧ (decode cX10_waiting 53 = .ok (.getfield 19, 3)) ∧ (decode cX10_waiting 56 = .ok (.getfield 102, 3)) ∧ (decode cX10_waiting 59 = .ok (.iload_n 2, 1)) ∧ (decode cX10_waiting 60 = .ok (.iload_n 3, 1)) := by decide +kernel
theorem dX10_waiting_31 : decode cX10_waiting 31 = .ok (.aload_n 0, 1) := gdX10_waiting_31.1
theorem dX10_waiting_32 : decode cX10_waiting 32 = .ok (.getfield 19, 3) := gdX10_waiting_31.2.1
theorem dX10_waiting_35 : decode cX10_waiting 35 = .ok (.getfield 109, 3) := gdX10_waiting_31.2.2.1
theorem dX10_waiting_38 : decode cX10_waiting 38 = .ok (.getfield 170, 3) := gdX10_waiting_31.2.2.2.1
theorem dX10_waiting_41 : decode cX10_waiting 41 = .ok (.iload_n 1, 1) := gdX10_waiting_31.2.2.2.2.1
theorem dX10_waiting_42 : decode cX10_waiting 42 = .ok (.iaload, 1) := gdX10_waiting_31.2.2.2.2.2.1
theorem dX10_waiting_43 : decode cX10_waiting 43 = .ok (.iload_n 2, 1) := gdX10_waiting_31.2.2.2.2.2.2.1
theorem dX10_waiting_44 : decode cX10_waiting 44 = .ok (.iload_n 3, 1) := gdX10_waiting_31.2.2.2.2.2.2.2.1
theorem dX10_waiting_45 : decode cX10_waiting 45 = .ok (.invokevirtual 244, 3) := gdX10_waiting_31.2.2.2.2.2.2.2.2.1
theorem dX10_waiting_48 : decode cX10_waiting 48 = .ok (.aload_n 0, 1) := gdX10_waiting_31.2.2.2.2.2.2.2.2.2.1
theorem dX10_waiting_49 : decode cX10_waiting 49 = .ok (.getfield 68, 3) := gdX10_waiting_31.2.2.2.2.2.2.2.2.2.2.1
theorem dX10_waiting_52 : decode cX10_waiting 52 = .ok (.aload_n 0, 1) := gdX10_waiting_31.2.2.2.2.2.2.2.2.2.2.2.1
theorem dX10_waiting_53 : decode cX10_waiting 53 = .ok (.getfield 19, 3) := gdX10_waiting_31.2.2.2.2.2.2.2.2.2.2.2.2.1
theorem dX10_waiting_56 : decode cX10_waiting 56 = .ok (.getfield 102, 3) := gdX10_waiting_31.2.2.2.2.2.2.2.2.2.2.2.2.2.1
theorem dX10_waiting_59 : decode cX10_waiting 59 = .ok (.iload_n 2, 1) := gdX10_waiting_31.2.2.2.2.2.2.2.2.2.2.2.2.2.2.1
theorem dX10_waiting_60 : decode cX10_waiting 60 = .ok (.iload_n 3, 1) := gdX10_waiting_31.2.2.2.2.2.2.2.2.2.2.2.2.2.2.2
theorem gdX10_waiting_61 : (decode cX10_waiting 61 = .ok (.invokevirtual 273, 3)) ∧ (decode cX10_waiting 64 = .ok (.ireturn, 1)) := by decide +kernel
theorem dX10_waiting_61 : decode cX10_waiting 61 = .ok (.invokevirtual 273, 3) := gdX10_waiting_61.1
theorem dX10_waiting_64 : decode cX10_waiting 64 = .ok (.ireturn, 1) := gdX10_waiting_61.2
