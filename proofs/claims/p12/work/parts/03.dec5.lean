theorem gdX11_spreads_249 : (decode cX11_spreads 249 = .ok (.goto (-95), 3)) ∧ (decode cX11_spreads 252 = .ok (.iinc 1 1, 3)) ∧ (decode cX11_spreads 255 = .ok (.goto (-109), 3)) ∧ (decode cX11_spreads 258 = .ok (.return_, 1)) := by decide +kernel
theorem dX11_spreads_249 : decode cX11_spreads 249 = .ok (.goto (-95), 3) := gdX11_spreads_249.1
theorem dX11_spreads_252 : decode cX11_spreads 252 = .ok (.iinc 1 1, 3) := gdX11_spreads_249.2.1
theorem dX11_spreads_255 : decode cX11_spreads 255 = .ok (.goto (-109), 3) := gdX11_spreads_249.2.2.1
theorem dX11_spreads_258 : decode cX11_spreads 258 = .ok (.return_, 1) := gdX11_spreads_249.2.2.2
theorem gdX11_between_0 : (decode cX11_between 0 = .ok (.aload_n 0, 1)) ∧ (decode cX11_between 1 = .ok (.getfield 57, 3)) ∧ (decode cX11_between 4 = .ok (.bipush 10, 2)) ∧ (decode cX11_between 6 = .ok (.iload_n 1, 1)) ∧ (decode cX11_between 7 = .ok (.imul, 1)) ∧ (decode cX11_between 8 = .ok (.iload_n 2, 1)) ∧ (decode cX11_between 9 = .ok (.iadd, 1)) ∧ (decode cX11_between 10 = .ok (.laload, 1)) ∧ (decode cX11_between 11 = .ok (.lreturn, 1)) := by decide +kernel
theorem dX11_between_0 : decode cX11_between 0 = .ok (.aload_n 0, 1) := gdX11_between_0.1
theorem dX11_between_1 : decode cX11_between 1 = .ok (.getfield 57, 3) := gdX11_between_0.2.1
theorem dX11_between_4 : decode cX11_between 4 = .ok (.bipush 10, 2) := gdX11_between_0.2.2.1
theorem dX11_between_6 : decode cX11_between 6 = .ok (.iload_n 1, 1) := gdX11_between_0.2.2.2.1
theorem dX11_between_7 : decode cX11_between 7 = .ok (.imul, 1) := gdX11_between_0.2.2.2.2.1
theorem dX11_between_8 : decode cX11_between 8 = .ok (.iload_n 2, 1) := gdX11_between_0.2.2.2.2.2.1
theorem dX11_between_9 : decode cX11_between 9 = .ok (.iadd, 1) := gdX11_between_0.2.2.2.2.2.2.1
theorem dX11_between_10 : decode cX11_between 10 = .ok (.laload, 1) := gdX11_between_0.2.2.2.2.2.2.2.1
theorem dX11_between_11 : decode cX11_between 11 = .ok (.lreturn, 1) := gdX11_between_0.2.2.2.2.2.2.2.2
theorem gdX11_nextStair_0 : (decode cX11_nextStair 0 = .ok (.iload_n 1, 1)) ∧ (decode cX11_nextStair 1 = .ok (.iload_n 2, 1)) ∧ (decode cX11_nextStair 2 = .ok (.if_icmp .eq 16, 3)) ∧ (decode cX11_nextStair 5 = .ok (.aload_n 0, 1)) ∧ (decode cX11_nextStair 6 = .ok (.iload_n 1, 1)) ∧ (decode cX11_nextStair 7 = .ok (.iload_n 2, 1)) ∧ (decode cX11_nextStair 8 = .ok (.invokevirtual 289, 3)) ∧ (decode cX11_nextStair 11 = .ok (.ldc2_w 287, 3)) ∧ (decode cX11_nextStair 14 = .ok (.lcmp, 1)) ∧ (decode cX11_nextStair 15 = .ok (.ifCond .lt 6, 3)) ∧ (decode cX11_nextStair 18 = .ok (.bipush (-2), 2)) ∧ (decode cX11_nextStair 20 = .ok (.ireturn, 1)) ∧ (decode cX11_nextStair 21 = .ok (.iconst 0, 1)) ∧ (decode cX11_nextStair 22 = .ok (.istore_n 3, 1)) ∧ (decode cX11_nextStair 23 = .ok (.aload_n 0, 1)) ∧ (decode cX11_nextStair 24 = .ok (.iload_n 3, 1)) := by decide +kernel
theorem dX11_nextStair_0 : decode cX11_nextStair 0 = .ok (.iload_n 1, 1) := gdX11_nextStair_0.1
theorem dX11_nextStair_1 : decode cX11_nextStair 1 = .ok (.iload_n 2, 1) := gdX11_nextStair_0.2.1
theorem dX11_nextStair_2 : decode cX11_nextStair 2 = .ok (.if_icmp .eq 16, 3) := gdX11_nextStair_0.2.2.1
theorem dX11_nextStair_5 : decode cX11_nextStair 5 = .ok (.aload_n 0, 1) := gdX11_nextStair_0.2.2.2.1
theorem dX11_nextStair_6 : decode cX11_nextStair 6 = .ok (.iload_n 1, 1) := gdX11_nextStair_0.2.2.2.2.1
theorem dX11_nextStair_7 : decode cX11_nextStair 7 = .ok (.iload_n 2, 1) := gdX11_nextStair_0.2.2.2.2.2.1
theorem dX11_nextStair_8 : decode cX11_nextStair 8 = .ok (.invokevirtual 289, 3) := gdX11_nextStair_0.2.2.2.2.2.2.1
theorem dX11_nextStair_11 : decode cX11_nextStair 11 = .ok (.ldc2_w 287, 3) := gdX11_nextStair_0.2.2.2.2.2.2.2.1
theorem dX11_nextStair_14 : decode cX11_nextStair 14 = .ok (.lcmp, 1) := gdX11_nextStair_0.2.2.2.2.2.2.2.2.1
theorem dX11_nextStair_15 : decode cX11_nextStair 15 = .ok (.ifCond .lt 6, 3) := gdX11_nextStair_0.2.2.2.2.2.2.2.2.2.1
theorem dX11_nextStair_18 : decode cX11_nextStair 18 = .ok (.bipush (-2), 2) := gdX11_nextStair_0.2.2.2.2.2.2.2.2.2.2.1
theorem dX11_nextStair_20 : decode cX11_nextStair 20 = .ok (.ireturn, 1) := gdX11_nextStair_0.2.2.2.2.2.2.2.2.2.2.2.1
theorem dX11_nextStair_21 : decode cX11_nextStair 21 = .ok (.iconst 0, 1) := gdX11_nextStair_0.2.2.2.2.2.2.2.2.2.2.2.2.1
theorem dX11_nextStair_22 : decode cX11_nextStair 22 = .ok (.istore_n 3, 1) := gdX11_nextStair_0.2.2.2.2.2.2.2.2.2.2.2.2.2.1
theorem dX11_nextStair_23 : decode cX11_nextStair 23 = .ok (.aload_n 0, 1) := gdX11_nextStair_0.2.2.2.2.2.2.2.2.2.2.2.2.2.2.1
theorem dX11_nextStair_24 : decode cX11_nextStair 24 = .ok (.iload_n 3, 1) := gdX11_nextStair_0.2.2.2.2.2.2.2.2.2.2.2.2.2.2.2
theorem gdX11_nextStair_25 : (decode cX11_nextStair 25 = .ok (.iload_n 1, 1)) ∧ (decode cX11_nextStair 26 = .ok (.invokevirtual 293, 3)) ∧ (decode cX11_nextStair 29 = .ok (.ifCond .lt 32, 3)) ∧ (decode cX11_nextStair 32 = .ok (.aload_n 0, 1)) ∧ (decode cX11_nextStair 33 = .ok (.iload_n 3, 1)) ∧ (decode cX11_nextStair 34 = .ok (.iconst 2, 1)) ∧ (decode cX11_nextStair 35 = .ok (.invokevirtual 283, 3)) ∧ (decode cX11_nextStair 38 = .ok (.i2l, 1)) ∧ (decode cX11_nextStair 39 = .ok (.aload_n 0, 1)) ∧ (decode cX11_nextStair 40 = .ok (.aload_n 0, 1)) ∧ (decode cX11_nextStair 41 = .ok (.iload_n 3, 1)) ∧ (decode cX11_nextStair 42 = .ok (.iload_n 1, 1)) ∧ (decode cX11_nextStair 43 = .ok (.invokevirtual 293, 3)) ∧ (decode cX11_nextStair 46 = .ok (.iload_n 2, 1)) ∧ (decode cX11_nextStair 47 = .ok (.invokevirtual 289, 3)) ∧ (decode cX11_nextStair 50 = .ok (.ladd, 1)) := by decide +kernel
theorem dX11_nextStair_25 : decode cX11_nextStair 25 = .ok (.iload_n 1, 1) := gdX11_nextStair_25.1
theorem dX11_nextStair_26 : decode cX11_nextStair 26 = .ok (.invokevirtual 293, 3) := gdX11_nextStair_25.2.1
theorem dX11_nextStair_29 : decode cX11_nextStair 29 = .ok (.ifCond .lt 32, 3) := gdX11_nextStair_25.2.2.1
theorem dX11_nextStair_32 : decode cX11_nextStair 32 = .ok (.aload_n 0, 1) := gdX11_nextStair_25.2.2.2.1
theorem dX11_nextStair_33 : decode cX11_nextStair 33 = .ok (.iload_n 3, 1) := gdX11_nextStair_25.2.2.2.2.1
theorem dX11_nextStair_34 : decode cX11_nextStair 34 = .ok (.iconst 2, 1) := gdX11_nextStair_25.2.2.2.2.2.1
theorem dX11_nextStair_35 : decode cX11_nextStair 35 = .ok (.invokevirtual 283, 3) := gdX11_nextStair_25.2.2.2.2.2.2.1
theorem dX11_nextStair_38 : decode cX11_nextStair 38 = .ok (.i2l, 1) := gdX11_nextStair_25.2.2.2.2.2.2.2.1
theorem dX11_nextStair_39 : decode cX11_nextStair 39 = .ok (.aload_n 0, 1) := gdX11_nextStair_25.2.2.2.2.2.2.2.2.1
theorem dX11_nextStair_40 : decode cX11_nextStair 40 = .ok (.aload_n 0, 1) := gdX11_nextStair_25.2.2.2.2.2.2.2.2.2.1
theorem dX11_nextStair_41 : decode cX11_nextStair 41 = .ok (.iload_n 3, 1) := gdX11_nextStair_25.2.2.2.2.2.2.2.2.2.2.1
theorem dX11_nextStair_42 : decode cX11_nextStair 42 = .ok (.iload_n 1, 1) := gdX11_nextStair_25.2.2.2.2.2.2.2.2.2.2.2.1
theorem dX11_nextStair_43 : decode cX11_nextStair 43 = .ok (.invokevirtual 293, 3) := gdX11_nextStair_25.2.2.2.2.2.2.2.2.2.2.2.2.1
theorem dX11_nextStair_46 : decode cX11_nextStair 46 = .ok (.iload_n 2, 1) := gdX11_nextStair_25.2.2.2.2.2.2.2.2.2.2.2.2.2.1
theorem dX11_nextStair_47 : decode cX11_nextStair 47 = .ok (.invokevirtual 289, 3) := gdX11_nextStair_25.2.2.2.2.2.2.2.2.2.2.2.2.2.2.1
theorem dX11_nextStair_50 : decode cX11_nextStair 50 = .ok (.ladd, 1) := gdX11_nextStair_25.2.2.2.2.2.2.2.2.2.2.2.2.2.2.2
theorem gdX11_nextStair_51 : (decode cX11_nextStair 51 = .ok (.aload_n 0, 1)) ∧ (decode cX11_nextStair 52 = .ok (.iload_n 1, 1)) ∧ (decode cX11_nextStair 53 = .ok (.iload_n 2, 1)) ∧ (decode cX11_nextStair 54 = .ok (.invokevirtual 289, 3)) ∧ (decode cX11_nextStair 57 = .ok (.lcmp, 1)) ∧ (decode cX11_nextStair 58 = .ok (.ifCond .eq 9, 3)) ∧ (decode cX11_nextStair 61 = .ok (.iinc 3 1, 3)) ∧ (decode cX11_nextStair 64 = .ok (.goto (-41), 3)) ∧ (decode cX11_nextStair 67 = .ok (.iload_n 3, 1)) ∧ (decode cX11_nextStair 68 = .ok (.ireturn, 1)) := by decide +kernel
theorem dX11_nextStair_51 : decode cX11_nextStair 51 = .ok (.aload_n 0, 1) := gdX11_nextStair_51.1
theorem dX11_nextStair_52 : decode cX11_nextStair 52 = .ok (.iload_n 1, 1) := gdX11_nextStair_51.2.1
theorem dX11_nextStair_53 : decode cX11_nextStair 53 = .ok (.iload_n 2, 1) := gdX11_nextStair_51.2.2.1
theorem dX11_nextStair_54 : decode cX11_nextStair 54 = .ok (.invokevirtual 289, 3) := gdX11_nextStair_51.2.2.2.1
theorem dX11_nextStair_57 : decode cX11_nextStair 57 = .ok (.lcmp, 1) := gdX11_nextStair_51.2.2.2.2.1
theorem dX11_nextStair_58 : decode cX11_nextStair 58 = .ok (.ifCond .eq 9, 3) := gdX11_nextStair_51.2.2.2.2.2.1
theorem dX11_nextStair_61 : decode cX11_nextStair 61 = .ok (.iinc 3 1, 3) := gdX11_nextStair_51.2.2.2.2.2.2.1
theorem dX11_nextStair_64 : decode cX11_nextStair 64 = .ok (.goto (-41), 3) := gdX11_nextStair_51.2.2.2.2.2.2.2.1
theorem dX11_nextStair_67 : decode cX11_nextStair 67 = .ok (.iload_n 3, 1) := gdX11_nextStair_51.2.2.2.2.2.2.2.2.1
theorem dX11_nextStair_68 : decode cX11_nextStair 68 = .ok (.ireturn, 1) := gdX11_nextStair_51.2.2.2.2.2.2.2.2.2
theorem gdX11_standing_0 : (decode cX11_standing 0 = .ok (.iconst 0, 1)) ∧ (decode cX11_standing 1 = .ok (.istore_n 2, 1)) ∧ (decode cX11_standing 2 = .ok (.iconst 0, 1)) ∧ (decode cX11_standing 3 = .ok (.istore_n 3, 1)) ∧ (decode cX11_standing 4 = .ok (.iload_n 3, 1)) ∧ (decode cX11_standing 5 = .ok (.aload_n 0, 1)) ∧ (decode cX11_standing 6 = .ok (.getfield 45, 3)) ∧ (decode cX11_standing 9 = .ok (.iconst 2, 1)) ∧ (decode cX11_standing 10 = .ok (.iaload, 1)) ∧ (decode cX11_standing 11 = .ok (.if_icmp .ge 27, 3)) ∧ (decode cX11_standing 14 = .ok (.iload_n 2, 1)) ∧ (decode cX11_standing 15 = .ok (.aload_n 0, 1)) ∧ (decode cX11_standing 16 = .ok (.iload_n 3, 1)) ∧ (decode cX11_standing 17 = .ok (.iconst 0, 1)) ∧ (decode cX11_standing 18 = .ok (.invokevirtual 296, 3)) ∧ (decode cX11_standing 21 = .ok (.iload_n 1, 1)) := by decide +kernel
theorem dX11_standing_0 : decode cX11_standing 0 = .ok (.iconst 0, 1) := gdX11_standing_0.1
theorem dX11_standing_1 : decode cX11_standing 1 = .ok (.istore_n 2, 1) := gdX11_standing_0.2.1
theorem dX11_standing_2 : decode cX11_standing 2 = .ok (.iconst 0, 1) := gdX11_standing_0.2.2.1
theorem dX11_standing_3 : decode cX11_standing 3 = .ok (.istore_n 3, 1) := gdX11_standing_0.2.2.2.1
theorem dX11_standing_4 : decode cX11_standing 4 = .ok (.iload_n 3, 1) := gdX11_standing_0.2.2.2.2.1
theorem dX11_standing_5 : decode cX11_standing 5 = .ok (.aload_n 0, 1) := gdX11_standing_0.2.2.2.2.2.1
theorem dX11_standing_6 : decode cX11_standing 6 = .ok (.getfield 45, 3) := gdX11_standing_0.2.2.2.2.2.2.1
theorem dX11_standing_9 : decode cX11_standing 9 = .ok (.iconst 2, 1) := gdX11_standing_0.2.2.2.2.2.2.2.1
theorem dX11_standing_10 : decode cX11_standing 10 = .ok (.iaload, 1) := gdX11_standing_0.2.2.2.2.2.2.2.2.1
theorem dX11_standing_11 : decode cX11_standing 11 = .ok (.if_icmp .ge 27, 3) := gdX11_standing_0.2.2.2.2.2.2.2.2.2.1
theorem dX11_standing_14 : decode cX11_standing 14 = .ok (.iload_n 2, 1) := gdX11_standing_0.2.2.2.2.2.2.2.2.2.2.1
theorem dX11_standing_15 : decode cX11_standing 15 = .ok (.aload_n 0, 1) := gdX11_standing_0.2.2.2.2.2.2.2.2.2.2.2.1
theorem dX11_standing_16 : decode cX11_standing 16 = .ok (.iload_n 3, 1) := gdX11_standing_0.2.2.2.2.2.2.2.2.2.2.2.2.1
theorem dX11_standing_17 : decode cX11_standing 17 = .ok (.iconst 0, 1) := gdX11_standing_0.2.2.2.2.2.2.2.2.2.2.2.2.2.1
theorem dX11_standing_18 : decode cX11_standing 18 = .ok (.invokevirtual 296, 3) := gdX11_standing_0.2.2.2.2.2.2.2.2.2.2.2.2.2.2.1
theorem dX11_standing_21 : decode cX11_standing 21 = .ok (.iload_n 1, 1) := gdX11_standing_0.2.2.2.2.2.2.2.2.2.2.2.2.2.2.2
theorem gdX11_standing_22 : (decode cX11_standing 22 = .ok (.if_icmp .ne 7, 3)) ∧ (decode cX11_standing 25 = .ok (.iconst 1, 1)) ∧ (decode cX11_standing 26 = .ok (.goto 4, 3)) ∧ (decode cX11_standing 29 = .ok (.iconst 0, 1)) ∧ (decode cX11_standing 30 = .ok (.iadd, 1)) ∧ (decode cX11_standing 31 = .ok (.istore_n 2, 1)) ∧ (decode cX11_standing 32 = .ok (.iinc 3 1, 3)) ∧ (decode cX11_standing 35 = .ok (.goto (-31), 3)) ∧ (decode cX11_standing 38 = .ok (.iload_n 2, 1)) ∧ (decode cX11_standing 39 = .ok (.ireturn, 1)) := by decide +kernel
theorem dX11_standing_22 : decode cX11_standing 22 = .ok (.if_icmp .ne 7, 3) := gdX11_standing_22.1
theorem dX11_standing_25 : decode cX11_standing 25 = .ok (.iconst 1, 1) := gdX11_standing_22.2.1
theorem dX11_standing_26 : decode cX11_standing 26 = .ok (.goto 4, 3) := gdX11_standing_22.2.2.1
theorem dX11_standing_29 : decode cX11_standing 29 = .ok (.iconst 0, 1) := gdX11_standing_22.2.2.2.1
theorem dX11_standing_30 : decode cX11_standing 30 = .ok (.iadd, 1) := gdX11_standing_22.2.2.2.2.1
theorem dX11_standing_31 : decode cX11_standing 31 = .ok (.istore_n 2, 1) := gdX11_standing_22.2.2.2.2.2.1
theorem dX11_standing_32 : decode cX11_standing 32 = .ok (.iinc 3 1, 3) := gdX11_standing_22.2.2.2.2.2.2.1
theorem dX11_standing_35 : decode cX11_standing 35 = .ok (.goto (-31), 3) := gdX11_standing_22.2.2.2.2.2.2.2.1
theorem dX11_standing_38 : decode cX11_standing 38 = .ok (.iload_n 2, 1) := gdX11_standing_22.2.2.2.2.2.2.2.2.1
theorem dX11_standing_39 : decode cX11_standing 39 = .ok (.ireturn, 1) := gdX11_standing_22.2.2.2.2.2.2.2.2.2
theorem gdX11_floor_0 : (decode cX11_floor 0 = .ok (.aload_n 0, 1)) ∧ (decode cX11_floor 1 = .ok (.iload_n 1, 1)) ∧ (decode cX11_floor 2 = .ok (.invokevirtual 299, 3)) ∧ (decode cX11_floor 5 = .ok (.ifCond .eq 15, 3)) ∧ (decode cX11_floor 8 = .ok (.iload_n 2, 1)) ∧ (decode cX11_floor 9 = .ok (.i2l, 1)) ∧ (decode cX11_floor 10 = .ok (.lconst 0, 1)) ∧ (decode cX11_floor 11 = .ok (.ldc2_w 302, 3)) ∧ (decode cX11_floor 14 = .ok (.invokestatic 131, 3)) ∧ (decode cX11_floor 17 = .ok (.ifCond .ne 5, 3)) ∧ (decode cX11_floor 20 = .ok (.iconst (-1), 1)) ∧ (decode cX11_floor 21 = .ok (.ireturn, 1)) ∧ (decode cX11_floor 22 = .ok (.iload_n 2, 1)) ∧ (decode cX11_floor 23 = .ok (.iconst 2, 1)) ∧ (decode cX11_floor 24 = .ok (.if_icmp .ne 11, 3)) ∧ (decode cX11_floor 27 = .ok (.aload_n 0, 1)) := by decide +kernel
theorem dX11_floor_0 : decode cX11_floor 0 = .ok (.aload_n 0, 1) := gdX11_floor_0.1
theorem dX11_floor_1 : decode cX11_floor 1 = .ok (.iload_n 1, 1) := gdX11_floor_0.2.1
theorem dX11_floor_2 : decode cX11_floor 2 = .ok (.invokevirtual 299, 3) := gdX11_floor_0.2.2.1
theorem dX11_floor_5 : decode cX11_floor 5 = .ok (.ifCond .eq 15, 3) := gdX11_floor_0.2.2.2.1
theorem dX11_floor_8 : decode cX11_floor 8 = .ok (.iload_n 2, 1) := gdX11_floor_0.2.2.2.2.1
theorem dX11_floor_9 : decode cX11_floor 9 = .ok (.i2l, 1) := gdX11_floor_0.2.2.2.2.2.1
theorem dX11_floor_10 : decode cX11_floor 10 = .ok (.lconst 0, 1) := gdX11_floor_0.2.2.2.2.2.2.1
theorem dX11_floor_11 : decode cX11_floor 11 = .ok (.ldc2_w 302, 3) := gdX11_floor_0.2.2.2.2.2.2.2.1
theorem dX11_floor_14 : decode cX11_floor 14 = .ok (.invokestatic 131, 3) := gdX11_floor_0.2.2.2.2.2.2.2.2.1
theorem dX11_floor_17 : decode cX11_floor 17 = .ok (.ifCond .ne 5, 3) := gdX11_floor_0.2.2.2.2.2.2.2.2.2.1
theorem dX11_floor_20 : decode cX11_floor 20 = .ok (.iconst (-1), 1) := gdX11_floor_0.2.2.2.2.2.2.2.2.2.2.1
theorem dX11_floor_21 : decode cX11_floor 21 = .ok (.ireturn, 1) := gdX11_floor_0.2.2.2.2.2.2.2.2.2.2.2.1
theorem dX11_floor_22 : decode cX11_floor 22 = .ok (.iload_n 2, 1) := gdX11_floor_0.2.2.2.2.2.2.2.2.2.2.2.2.1
theorem dX11_floor_23 : decode cX11_floor 23 = .ok (.iconst 2, 1) := gdX11_floor_0.2.2.2.2.2.2.2.2.2.2.2.2.2.1
theorem dX11_floor_24 : decode cX11_floor 24 = .ok (.if_icmp .ne 11, 3) := gdX11_floor_0.2.2.2.2.2.2.2.2.2.2.2.2.2.2.1
theorem dX11_floor_27 : decode cX11_floor 27 = .ok (.aload_n 0, 1) := gdX11_floor_0.2.2.2.2.2.2.2.2.2.2.2.2.2.2.2
theorem gdX11_floor_28 : (decode cX11_floor 28 = .ok (.iload_n 1, 1)) ∧ (decode cX11_floor 29 = .ok (.invokevirtual 304, 3)) ∧ (decode cX11_floor 32 = .ok (.goto 34, 3)) ∧ (decode cX11_floor 35 = .ok (.aload_n 0, 1)) ∧ (decode cX11_floor 36 = .ok (.getfield 45, 3)) ∧ (decode cX11_floor 39 = .ok (.bipush 10, 2)) ∧ (decode cX11_floor 41 = .ok (.iconst 2, 1)) ∧ (decode cX11_floor 42 = .ok (.iload_n 1, 1)) ∧ (decode cX11_floor 43 = .ok (.imul, 1)) ∧ (decode cX11_floor 44 = .ok (.iadd, 1)) ∧ (decode cX11_floor 45 = .ok (.iaload, 1)) ∧ (decode cX11_floor 46 = .ok (.i2l, 1)) ∧ (decode cX11_floor 47 = .ok (.aload_n 0, 1)) ∧ (decode cX11_floor 48 = .ok (.getfield 45, 3)) ∧ (decode cX11_floor 51 = .ok (.bipush 10, 2)) ∧ (decode cX11_floor 53 = .ok (.iconst 2, 1)) := by decide +kernel
theorem dX11_floor_28 : decode cX11_floor 28 = .ok (.iload_n 1, 1) := gdX11_floor_28.1
theorem dX11_floor_29 : decode cX11_floor 29 = .ok (.invokevirtual 304, 3) := gdX11_floor_28.2.1
theorem dX11_floor_32 : decode cX11_floor 32 = .ok (.goto 34, 3) := gdX11_floor_28.2.2.1
theorem dX11_floor_35 : decode cX11_floor 35 = .ok (.aload_n 0, 1) := gdX11_floor_28.2.2.2.1
theorem dX11_floor_36 : decode cX11_floor 36 = .ok (.getfield 45, 3) := gdX11_floor_28.2.2.2.2.1
theorem dX11_floor_39 : decode cX11_floor 39 = .ok (.bipush 10, 2) := gdX11_floor_28.2.2.2.2.2.1
theorem dX11_floor_41 : decode cX11_floor 41 = .ok (.iconst 2, 1) := gdX11_floor_28.2.2.2.2.2.2.1
theorem dX11_floor_42 : decode cX11_floor 42 = .ok (.iload_n 1, 1) := gdX11_floor_28.2.2.2.2.2.2.2.1
theorem dX11_floor_43 : decode cX11_floor 43 = .ok (.imul, 1) := gdX11_floor_28.2.2.2.2.2.2.2.2.1
theorem dX11_floor_44 : decode cX11_floor 44 = .ok (.iadd, 1) := gdX11_floor_28.2.2.2.2.2.2.2.2.2.1
theorem dX11_floor_45 : decode cX11_floor 45 = .ok (.iaload, 1) := gdX11_floor_28.2.2.2.2.2.2.2.2.2.2.1
theorem dX11_floor_46 : decode cX11_floor 46 = .ok (.i2l, 1) := gdX11_floor_28.2.2.2.2.2.2.2.2.2.2.2.1
theorem dX11_floor_47 : decode cX11_floor 47 = .ok (.aload_n 0, 1) := gdX11_floor_28.2.2.2.2.2.2.2.2.2.2.2.2.1
theorem dX11_floor_48 : decode cX11_floor 48 = .ok (.getfield 45, 3) := gdX11_floor_28.2.2.2.2.2.2.2.2.2.2.2.2.2.1
theorem dX11_floor_51 : decode cX11_floor 51 = .ok (.bipush 10, 2) := gdX11_floor_28.2.2.2.2.2.2.2.2.2.2.2.2.2.2.1
theorem dX11_floor_53 : decode cX11_floor 53 = .ok (.iconst 2, 1) := gdX11_floor_28.2.2.2.2.2.2.2.2.2.2.2.2.2.2.2
theorem gdX11_floor_54 : (decode cX11_floor 54 = .ok (.iload_n 1, 1)) ∧ (decode cX11_floor 55 = .ok (.imul, 1)) ∧ (decode cX11_floor 56 = .ok (.iadd, 1)) ∧ (decode cX11_floor 57 = .ok (.iconst 1, 1)) ∧ (decode cX11_floor 58 = .ok (.iadd, 1)) ∧ (decode cX11_floor 59 = .ok (.iaload, 1)) ∧ (decode cX11_floor 60 = .ok (.i2l, 1)) ∧ (decode cX11_floor 61 = .ok (.iload_n 2, 1)) ∧ (decode cX11_floor 62 = .ok (.invokestatic 307, 3)) ∧ (decode cX11_floor 65 = .ok (.l2i, 1)) ∧ (decode cX11_floor 66 = .ok (.ireturn, 1)) := by decide +kernel
theorem dX11_floor_54 : decode cX11_floor 54 = .ok (.iload_n 1, 1) := gdX11_floor_54.1
theorem dX11_floor_55 : decode cX11_floor 55 = .ok (.imul, 1) := gdX11_floor_54.2.1
theorem dX11_floor_56 : decode cX11_floor 56 = .ok (.iadd, 1) := gdX11_floor_54.2.2.1
theorem dX11_floor_57 : decode cX11_floor 57 = .ok (.iconst 1, 1) := gdX11_floor_54.2.2.2.1
theorem dX11_floor_58 : decode cX11_floor 58 = .ok (.iadd, 1) := gdX11_floor_54.2.2.2.2.1
theorem dX11_floor_59 : decode cX11_floor 59 = .ok (.iaload, 1) := gdX11_floor_54.2.2.2.2.2.1
theorem dX11_floor_60 : decode cX11_floor 60 = .ok (.i2l, 1) := gdX11_floor_54.2.2.2.2.2.2.1
theorem dX11_floor_61 : decode cX11_floor 61 = .ok (.iload_n 2, 1) := gdX11_floor_54.2.2.2.2.2.2.2.1
theorem dX11_floor_62 : decode cX11_floor 62 = .ok (.invokestatic 307, 3) := gdX11_floor_54.2.2.2.2.2.2.2.2.1
theorem dX11_floor_65 : decode cX11_floor 65 = .ok (.l2i, 1) := gdX11_floor_54.2.2.2.2.2.2.2.2.2.1
theorem dX11_floor_66 : decode cX11_floor 66 = .ok (.ireturn, 1) := gdX11_floor_54.2.2.2.2.2.2.2.2.2.2
theorem gdX11_stair_0 : (decode cX11_stair 0 = .ok (.aload_n 0, 1)) ∧ (decode cX11_stair 1 = .ok (.iload_n 1, 1)) ∧ (decode cX11_stair 2 = .ok (.invokevirtual 311, 3)) ∧ (decode cX11_stair 5 = .ok (.ifCond .eq 15, 3)) ∧ (decode cX11_stair 8 = .ok (.iload_n 2, 1)) ∧ (decode cX11_stair 9 = .ok (.i2l, 1)) ∧ (decode cX11_stair 10 = .ok (.lconst 0, 1)) ∧ (decode cX11_stair 11 = .ok (.ldc2_w 314, 3)) ∧ (decode cX11_stair 14 = .ok (.invokestatic 131, 3)) ∧ (decode cX11_stair 17 = .ok (.ifCond .ne 5, 3)) ∧ (decode cX11_stair 20 = .ok (.iconst (-1), 1)) ∧ (decode cX11_stair 21 = .ok (.ireturn, 1)) ∧ (decode cX11_stair 22 = .ok (.iload_n 2, 1)) ∧ (decode cX11_stair 23 = .ok (.iconst 3, 1)) ∧ (decode cX11_stair 24 = .ok (.if_icmp .ge 12, 3)) ∧ (decode cX11_stair 27 = .ok (.aload_n 0, 1)) := by decide +kernel
theorem dX11_stair_0 : decode cX11_stair 0 = .ok (.aload_n 0, 1) := gdX11_stair_0.1
theorem dX11_stair_1 : decode cX11_stair 1 = .ok (.iload_n 1, 1) := gdX11_stair_0.2.1
theorem dX11_stair_2 : decode cX11_stair 2 = .ok (.invokevirtual 311, 3) := gdX11_stair_0.2.2.1
theorem dX11_stair_5 : decode cX11_stair 5 = .ok (.ifCond .eq 15, 3) := gdX11_stair_0.2.2.2.1
theorem dX11_stair_8 : decode cX11_stair 8 = .ok (.iload_n 2, 1) := gdX11_stair_0.2.2.2.2.1
theorem dX11_stair_9 : decode cX11_stair 9 = .ok (.i2l, 1) := gdX11_stair_0.2.2.2.2.2.1
theorem dX11_stair_10 : decode cX11_stair 10 = .ok (.lconst 0, 1) := gdX11_stair_0.2.2.2.2.2.2.1
theorem dX11_stair_11 : decode cX11_stair 11 = .ok (.ldc2_w 314, 3) := gdX11_stair_0.2.2.2.2.2.2.2.1
theorem dX11_stair_14 : decode cX11_stair 14 = .ok (.invokestatic 131, 3) := gdX11_stair_0.2.2.2.2.2.2.2.2.1
theorem dX11_stair_17 : decode cX11_stair 17 = .ok (.ifCond .ne 5, 3) := gdX11_stair_0.2.2.2.2.2.2.2.2.2.1
theorem dX11_stair_20 : decode cX11_stair 20 = .ok (.iconst (-1), 1) := gdX11_stair_0.2.2.2.2.2.2.2.2.2.2.1
theorem dX11_stair_21 : decode cX11_stair 21 = .ok (.ireturn, 1) := gdX11_stair_0.2.2.2.2.2.2.2.2.2.2.2.1
theorem dX11_stair_22 : decode cX11_stair 22 = .ok (.iload_n 2, 1) := gdX11_stair_0.2.2.2.2.2.2.2.2.2.2.2.2.1
theorem dX11_stair_23 : decode cX11_stair 23 = .ok (.iconst 3, 1) := gdX11_stair_0.2.2.2.2.2.2.2.2.2.2.2.2.2.1
theorem dX11_stair_24 : decode cX11_stair 24 = .ok (.if_icmp .ge 12, 3) := gdX11_stair_0.2.2.2.2.2.2.2.2.2.2.2.2.2.2.1
theorem dX11_stair_27 : decode cX11_stair 27 = .ok (.aload_n 0, 1) := gdX11_stair_0.2.2.2.2.2.2.2.2.2.2.2.2.2.2.2
theorem gdX11_stair_28 : (decode cX11_stair 28 = .ok (.iload_n 1, 1)) ∧ (decode cX11_stair 29 = .ok (.iload_n 2, 1)) ∧ (decode cX11_stair 30 = .ok (.invokevirtual 283, 3)) ∧ (decode cX11_stair 33 = .ok (.goto 24, 3)) ∧ (decode cX11_stair 36 = .ok (.aload_n 0, 1)) ∧ (decode cX11_stair 37 = .ok (.iload_n 1, 1)) ∧ (decode cX11_stair 38 = .ok (.iconst 3, 1)) ∧ (decode cX11_stair 39 = .ok (.invokevirtual 283, 3)) ∧ (decode cX11_stair 42 = .ok (.i2l, 1)) ∧ (decode cX11_stair 43 = .ok (.aload_n 0, 1)) ∧ (decode cX11_stair 44 = .ok (.iload_n 1, 1)) ∧ (decode cX11_stair 45 = .ok (.iconst 4, 1)) ∧ (decode cX11_stair 46 = .ok (.invokevirtual 283, 3)) ∧ (decode cX11_stair 49 = .ok (.i2l, 1)) ∧ (decode cX11_stair 50 = .ok (.iload_n 2, 1)) ∧ (decode cX11_stair 51 = .ok (.iconst 3, 1)) := by decide +kernel
theorem dX11_stair_28 : decode cX11_stair 28 = .ok (.iload_n 1, 1) := gdX11_stair_28.1
theorem dX11_stair_29 : decode cX11_stair 29 = .ok (.iload_n 2, 1) := gdX11_stair_28.2.1
theorem dX11_stair_30 : decode cX11_stair 30 = .ok (.invokevirtual 283, 3) := gdX11_stair_28.2.2.1
theorem dX11_stair_33 : decode cX11_stair 33 = .ok (.goto 24, 3) := gdX11_stair_28.2.2.2.1
theorem dX11_stair_36 : decode cX11_stair 36 = .ok (.aload_n 0, 1) := gdX11_stair_28.2.2.2.2.1
theorem dX11_stair_37 : decode cX11_stair 37 = .ok (.iload_n 1, 1) := gdX11_stair_28.2.2.2.2.2.1
theorem dX11_stair_38 : decode cX11_stair 38 = .ok (.iconst 3, 1) := gdX11_stair_28.2.2.2.2.2.2.1
theorem dX11_stair_39 : decode cX11_stair 39 = .ok (.invokevirtual 283, 3) := gdX11_stair_28.2.2.2.2.2.2.2.1
theorem dX11_stair_42 : decode cX11_stair 42 = .ok (.i2l, 1) := gdX11_stair_28.2.2.2.2.2.2.2.2.1
theorem dX11_stair_43 : decode cX11_stair 43 = .ok (.aload_n 0, 1) := gdX11_stair_28.2.2.2.2.2.2.2.2.2.1
theorem dX11_stair_44 : decode cX11_stair 44 = .ok (.iload_n 1, 1) := gdX11_stair_28.2.2.2.2.2.2.2.2.2.2.1
theorem dX11_stair_45 : decode cX11_stair 45 = .ok (.iconst 4, 1) := gdX11_stair_28.2.2.2.2.2.2.2.2.2.2.2.1
theorem dX11_stair_46 : decode cX11_stair 46 = .ok (.invokevirtual 283, 3) := gdX11_stair_28.2.2.2.2.2.2.2.2.2.2.2.2.1
theorem dX11_stair_49 : decode cX11_stair 49 = .ok (.i2l, 1) := gdX11_stair_28.2.2.2.2.2.2.2.2.2.2.2.2.2.1
theorem dX11_stair_50 : decode cX11_stair 50 = .ok (.iload_n 2, 1) := gdX11_stair_28.2.2.2.2.2.2.2.2.2.2.2.2.2.2.1
theorem dX11_stair_51 : decode cX11_stair 51 = .ok (.iconst 3, 1) := gdX11_stair_28.2.2.2.2.2.2.2.2.2.2.2.2.2.2.2
theorem gdX11_stair_52 : (decode cX11_stair 52 = .ok (.isub, 1)) ∧ (decode cX11_stair 53 = .ok (.invokestatic 307, 3)) ∧ (decode cX11_stair 56 = .ok (.l2i, 1)) ∧ (decode cX11_stair 57 = .ok (.ireturn, 1)) := by decide +kernel
theorem dX11_stair_52 : decode cX11_stair 52 = .ok (.isub, 1) := gdX11_stair_52.1
theorem dX11_stair_53 : decode cX11_stair 53 = .ok (.invokestatic 307, 3) := gdX11_stair_52.2.1
theorem dX11_stair_56 : decode cX11_stair 56 = .ok (.l2i, 1) := gdX11_stair_52.2.2.1
theorem dX11_stair_57 : decode cX11_stair 57 = .ok (.ireturn, 1) := gdX11_stair_52.2.2.2
theorem gdX11_thing_0 : (decode cX11_thing 0 = .ok (.aload_n 0, 1)) ∧ (decode cX11_thing 1 = .ok (.iload_n 1, 1)) ∧ (decode cX11_thing 2 = .ok (.invokevirtual 316, 3)) ∧ (decode cX11_thing 5 = .ok (.ifCond .eq 24, 3)) ∧ (decode cX11_thing 8 = .ok (.iload_n 2, 1)) ∧ (decode cX11_thing 9 = .ok (.i2l, 1)) ∧ (decode cX11_thing 10 = .ok (.lconst 0, 1)) ∧ (decode cX11_thing 11 = .ok (.ldc2_w 319, 3)) ∧ (decode cX11_thing 14 = .ok (.invokestatic 131, 3)) ∧ (decode cX11_thing 17 = .ok (.ifCond .eq 12, 3)) ∧ (decode cX11_thing 20 = .ok (.aload_n 0, 1)) ∧ (decode cX11_thing 21 = .ok (.iload_n 1, 1)) ∧ (decode cX11_thing 22 = .ok (.iload_n 2, 1)) ∧ (decode cX11_thing 23 = .ok (.invokevirtual 296, 3)) ∧ (decode cX11_thing 26 = .ok (.goto 5, 3)) ∧ (decode cX11_thing 29 = .ok (.bipush (-2), 2)) := by decide +kernel
theorem dX11_thing_0 : decode cX11_thing 0 = .ok (.aload_n 0, 1) := gdX11_thing_0.1
theorem dX11_thing_1 : decode cX11_thing 1 = .ok (.iload_n 1, 1) := gdX11_thing_0.2.1
theorem dX11_thing_2 : decode cX11_thing 2 = .ok (.invokevirtual 316, 3) := gdX11_thing_0.2.2.1
theorem dX11_thing_5 : decode cX11_thing 5 = .ok (.ifCond .eq 24, 3) := gdX11_thing_0.2.2.2.1
theorem dX11_thing_8 : decode cX11_thing 8 = .ok (.iload_n 2, 1) := gdX11_thing_0.2.2.2.2.1
theorem dX11_thing_9 : decode cX11_thing 9 = .ok (.i2l, 1) := gdX11_thing_0.2.2.2.2.2.1
theorem dX11_thing_10 : decode cX11_thing 10 = .ok (.lconst 0, 1) := gdX11_thing_0.2.2.2.2.2.2.1
theorem dX11_thing_11 : decode cX11_thing 11 = .ok (.ldc2_w 319, 3) := gdX11_thing_0.2.2.2.2.2.2.2.1
theorem dX11_thing_14 : decode cX11_thing 14 = .ok (.invokestatic 131, 3) := gdX11_thing_0.2.2.2.2.2.2.2.2.1
theorem dX11_thing_17 : decode cX11_thing 17 = .ok (.ifCond .eq 12, 3) := gdX11_thing_0.2.2.2.2.2.2.2.2.2.1
theorem dX11_thing_20 : decode cX11_thing 20 = .ok (.aload_n 0, 1) := gdX11_thing_0.2.2.2.2.2.2.2.2.2.2.1
theorem dX11_thing_21 : decode cX11_thing 21 = .ok (.iload_n 1, 1) := gdX11_thing_0.2.2.2.2.2.2.2.2.2.2.2.1
theorem dX11_thing_22 : decode cX11_thing 22 = .ok (.iload_n 2, 1) := gdX11_thing_0.2.2.2.2.2.2.2.2.2.2.2.2.1
theorem dX11_thing_23 : decode cX11_thing 23 = .ok (.invokevirtual 296, 3) := gdX11_thing_0.2.2.2.2.2.2.2.2.2.2.2.2.2.1
theorem dX11_thing_26 : decode cX11_thing 26 = .ok (.goto 5, 3) := gdX11_thing_0.2.2.2.2.2.2.2.2.2.2.2.2.2.2.1
theorem dX11_thing_29 : decode cX11_thing 29 = .ok (.bipush (-2), 2) := gdX11_thing_0.2.2.2.2.2.2.2.2.2.2.2.2.2.2.2
theorem dX11_thing_31 : decode cX11_thing 31 = .ok (.ireturn, 1) := by decide +kernel
theorem gdX11_age_0 : (decode cX11_age 0 = .ok (.aload_n 0, 1)) ∧ (decode cX11_age 1 = .ok (.iload_n 1, 1)) ∧ (decode cX11_age 2 = .ok (.invokevirtual 316, 3)) ∧ (decode cX11_age 5 = .ok (.ifCond .eq 29, 3)) ∧ (decode cX11_age 8 = .ok (.iload_n 2, 1)) ∧ (decode cX11_age 9 = .ok (.i2l, 1)) ∧ (decode cX11_age 10 = .ok (.lconst 0, 1)) ∧ (decode cX11_age 11 = .ok (.lconst 1, 1)) ∧ (decode cX11_age 12 = .ok (.invokestatic 131, 3)) ∧ (decode cX11_age 15 = .ok (.ifCond .eq 19, 3)) ∧ (decode cX11_age 18 = .ok (.aload_n 0, 1)) ∧ (decode cX11_age 19 = .ok (.getfield 48, 3)) ∧ (decode cX11_age 22 = .ok (.iload_n 1, 1)) ∧ (decode cX11_age 23 = .ok (.laload, 1)) ∧ (decode cX11_age 24 = .ok (.ldc2_w 281, 3)) ∧ (decode cX11_age 27 = .ok (.iload_n 2, 1)) := by decide +kernel
theorem dX11_age_0 : decode cX11_age 0 = .ok (.aload_n 0, 1) := gdX11_age_0.1
theorem dX11_age_1 : decode cX11_age 1 = .ok (.iload_n 1, 1) := gdX11_age_0.2.1
theorem dX11_age_2 : decode cX11_age 2 = .ok (.invokevirtual 316, 3) := gdX11_age_0.2.2.1
theorem dX11_age_5 : decode cX11_age 5 = .ok (.ifCond .eq 29, 3) := gdX11_age_0.2.2.2.1
theorem dX11_age_8 : decode cX11_age 8 = .ok (.iload_n 2, 1) := gdX11_age_0.2.2.2.2.1
theorem dX11_age_9 : decode cX11_age 9 = .ok (.i2l, 1) := gdX11_age_0.2.2.2.2.2.1
theorem dX11_age_10 : decode cX11_age 10 = .ok (.lconst 0, 1) := gdX11_age_0.2.2.2.2.2.2.1
theorem dX11_age_11 : decode cX11_age 11 = .ok (.lconst 1, 1) := gdX11_age_0.2.2.2.2.2.2.2.1
theorem dX11_age_12 : decode cX11_age 12 = .ok (.invokestatic 131, 3) := gdX11_age_0.2.2.2.2.2.2.2.2.1
theorem dX11_age_15 : decode cX11_age 15 = .ok (.ifCond .eq 19, 3) := gdX11_age_0.2.2.2.2.2.2.2.2.2.1
theorem dX11_age_18 : decode cX11_age 18 = .ok (.aload_n 0, 1) := gdX11_age_0.2.2.2.2.2.2.2.2.2.2.1
theorem dX11_age_19 : decode cX11_age 19 = .ok (.getfield 48, 3) := gdX11_age_0.2.2.2.2.2.2.2.2.2.2.2.1
theorem dX11_age_22 : decode cX11_age 22 = .ok (.iload_n 1, 1) := gdX11_age_0.2.2.2.2.2.2.2.2.2.2.2.2.1
theorem dX11_age_23 : decode cX11_age 23 = .ok (.laload, 1) := gdX11_age_0.2.2.2.2.2.2.2.2.2.2.2.2.2.1
theorem dX11_age_24 : decode cX11_age 24 = .ok (.ldc2_w 281, 3) := gdX11_age_0.2.2.2.2.2.2.2.2.2.2.2.2.2.2.1
theorem dX11_age_27 : decode cX11_age 27 = .ok (.iload_n 2, 1) := gdX11_age_0.2.2.2.2.2.2.2.2.2.2.2.2.2.2.2
theorem gdX11_age_28 : (decode cX11_age 28 = .ok (.invokestatic 307, 3)) ∧ (decode cX11_age 31 = .ok (.goto 6, 3)) ∧ (decode cX11_age 34 = .ok (.ldc2_w 321, 3)) ∧ (decode cX11_age 37 = .ok (.lreturn, 1)) := by decide +kernel
theorem dX11_age_28 : decode cX11_age 28 = .ok (.invokestatic 307, 3) := gdX11_age_28.1
theorem dX11_age_31 : decode cX11_age 31 = .ok (.goto 6, 3) := gdX11_age_28.2.1
theorem dX11_age_34 : decode cX11_age 34 = .ok (.ldc2_w 321, 3) := gdX11_age_28.2.2.1
theorem dX11_age_37 : decode cX11_age 37 = .ok (.lreturn, 1) := gdX11_age_28.2.2.2
theorem gdX11_older_0 : (decode cX11_older 0 = .ok (.aload_n 0, 1)) ∧ (decode cX11_older 1 = .ok (.iload_n 1, 1)) ∧ (decode cX11_older 2 = .ok (.invokevirtual 316, 3)) ∧ (decode cX11_older 5 = .ok (.ifCond .eq 11, 3)) ∧ (decode cX11_older 8 = .ok (.aload_n 0, 1)) ∧ (decode cX11_older 9 = .ok (.iload_n 2, 1)) ∧ (decode cX11_older 10 = .ok (.invokevirtual 316, 3)) ∧ (decode cX11_older 13 = .ok (.ifCond .ne 6, 3)) ∧ (decode cX11_older 16 = .ok (.bipush (-2), 2)) ∧ (decode cX11_older 18 = .ok (.ireturn, 1)) ∧ (decode cX11_older 19 = .ok (.aload_n 0, 1)) ∧ (decode cX11_older 20 = .ok (.getfield 48, 3)) ∧ (decode cX11_older 23 = .ok (.iload_n 1, 1)) ∧ (decode cX11_older 24 = .ok (.laload, 1)) ∧ (decode cX11_older 25 = .ok (.aload_n 0, 1)) ∧ (decode cX11_older 26 = .ok (.getfield 48, 3)) := by decide +kernel
theorem dX11_older_0 : decode cX11_older 0 = .ok (.aload_n 0, 1) := gdX11_older_0.1
theorem dX11_older_1 : decode cX11_older 1 = .ok (.iload_n 1, 1) := gdX11_older_0.2.1
theorem dX11_older_2 : decode cX11_older 2 = .ok (.invokevirtual 316, 3) := gdX11_older_0.2.2.1
theorem dX11_older_5 : decode cX11_older 5 = .ok (.ifCond .eq 11, 3) := gdX11_older_0.2.2.2.1
theorem dX11_older_8 : decode cX11_older 8 = .ok (.aload_n 0, 1) := gdX11_older_0.2.2.2.2.1
theorem dX11_older_9 : decode cX11_older 9 = .ok (.iload_n 2, 1) := gdX11_older_0.2.2.2.2.2.1
theorem dX11_older_10 : decode cX11_older 10 = .ok (.invokevirtual 316, 3) := gdX11_older_0.2.2.2.2.2.2.1
theorem dX11_older_13 : decode cX11_older 13 = .ok (.ifCond .ne 6, 3) := gdX11_older_0.2.2.2.2.2.2.2.1
theorem dX11_older_16 : decode cX11_older 16 = .ok (.bipush (-2), 2) := gdX11_older_0.2.2.2.2.2.2.2.2.1
theorem dX11_older_18 : decode cX11_older 18 = .ok (.ireturn, 1) := gdX11_older_0.2.2.2.2.2.2.2.2.2.1
theorem dX11_older_19 : decode cX11_older 19 = .ok (.aload_n 0, 1) := gdX11_older_0.2.2.2.2.2.2.2.2.2.2.1
theorem dX11_older_20 : decode cX11_older 20 = .ok (.getfield 48, 3) := gdX11_older_0.2.2.2.2.2.2.2.2.2.2.2.1
theorem dX11_older_23 : decode cX11_older 23 = .ok (.iload_n 1, 1) := gdX11_older_0.2.2.2.2.2.2.2.2.2.2.2.2.1
theorem dX11_older_24 : decode cX11_older 24 = .ok (.laload, 1) := gdX11_older_0.2.2.2.2.2.2.2.2.2.2.2.2.2.1
theorem dX11_older_25 : decode cX11_older 25 = .ok (.aload_n 0, 1) := gdX11_older_0.2.2.2.2.2.2.2.2.2.2.2.2.2.2.1
theorem dX11_older_26 : decode cX11_older 26 = .ok (.getfield 48, 3) := gdX11_older_0.2.2.2.2.2.2.2.2.2.2.2.2.2.2.2
theorem gdX11_older_29 : (decode cX11_older 29 = .ok (.iload_n 2, 1)) ∧ (decode cX11_older 30 = .ok (.laload, 1)) ∧ (decode cX11_older 31 = .ok (.lcmp, 1)) ∧ (decode cX11_older 32 = .ok (.ifCond .le 7, 3)) ∧ (decode cX11_older 35 = .ok (.iconst 1, 1)) ∧ (decode cX11_older 36 = .ok (.goto 24, 3)) ∧ (decode cX11_older 39 = .ok (.aload_n 0, 1)) ∧ (decode cX11_older 40 = .ok (.getfield 48, 3)) ∧ (decode cX11_older 43 = .ok (.iload_n 1, 1)) ∧ (decode cX11_older 44 = .ok (.laload, 1)) ∧ (decode cX11_older 45 = .ok (.aload_n 0, 1)) ∧ (decode cX11_older 46 = .ok (.getfield 48, 3)) ∧ (decode cX11_older 49 = .ok (.iload_n 2, 1)) ∧ (decode cX11_older 50 = .ok (.laload, 1)) ∧ (decode cX11_older 51 = .ok (.lcmp, 1)) ∧ (decode cX11_older 52 = .ok (.ifCond .ge 7, 3)) := by decide +kernel
theorem dX11_older_29 : decode cX11_older 29 = .ok (.iload_n 2, 1) := gdX11_older_29.1
theorem dX11_older_30 : decode cX11_older 30 = .ok (.laload, 1) := gdX11_older_29.2.1
theorem dX11_older_31 : decode cX11_older 31 = .ok (.lcmp, 1) := gdX11_older_29.2.2.1
theorem dX11_older_32 : decode cX11_older 32 = .ok (.ifCond .le 7, 3) := gdX11_older_29.2.2.2.1
theorem dX11_older_35 : decode cX11_older 35 = .ok (.iconst 1, 1) := gdX11_older_29.2.2.2.2.1
theorem dX11_older_36 : decode cX11_older 36 = .ok (.goto 24, 3) := gdX11_older_29.2.2.2.2.2.1
theorem dX11_older_39 : decode cX11_older 39 = .ok (.aload_n 0, 1) := gdX11_older_29.2.2.2.2.2.2.1
theorem dX11_older_40 : decode cX11_older 40 = .ok (.getfield 48, 3) := gdX11_older_29.2.2.2.2.2.2.2.1
theorem dX11_older_43 : decode cX11_older 43 = .ok (.iload_n 1, 1) := gdX11_older_29.2.2.2.2.2.2.2.2.1
theorem dX11_older_44 : decode cX11_older 44 = .ok (.laload, 1) := gdX11_older_29.2.2.2.2.2.2.2.2.2.1
theorem dX11_older_45 : decode cX11_older 45 = .ok (.aload_n 0, 1) := gdX11_older_29.2.2.2.2.2.2.2.2.2.2.1
theorem dX11_older_46 : decode cX11_older 46 = .ok (.getfield 48, 3) := gdX11_older_29.2.2.2.2.2.2.2.2.2.2.2.1
theorem dX11_older_49 : decode cX11_older 49 = .ok (.iload_n 2, 1) := gdX11_older_29.2.2.2.2.2.2.2.2.2.2.2.2.1
theorem dX11_older_50 : decode cX11_older 50 = .ok (.laload, 1) := gdX11_older_29.2.2.2.2.2.2.2.2.2.2.2.2.2.1
theorem dX11_older_51 : decode cX11_older 51 = .ok (.lcmp, 1) := gdX11_older_29.2.2.2.2.2.2.2.2.2.2.2.2.2.2.1
theorem dX11_older_52 : decode cX11_older 52 = .ok (.ifCond .ge 7, 3) := gdX11_older_29.2.2.2.2.2.2.2.2.2.2.2.2.2.2.2
theorem gdX11_older_55 : (decode cX11_older 55 = .ok (.iconst (-1), 1)) ∧ (decode cX11_older 56 = .ok (.goto 4, 3)) ∧ (decode cX11_older 59 = .ok (.iconst 0, 1)) ∧ (decode cX11_older 60 = .ok (.ireturn, 1)) := by decide +kernel
theorem dX11_older_55 : decode cX11_older 55 = .ok (.iconst (-1), 1) := gdX11_older_55.1
theorem dX11_older_56 : decode cX11_older 56 = .ok (.goto 4, 3) := gdX11_older_55.2.1
theorem dX11_older_59 : decode cX11_older 59 = .ok (.iconst 0, 1) := gdX11_older_55.2.2.1
theorem dX11_older_60 : decode cX11_older 60 = .ok (.ireturn, 1) := gdX11_older_55.2.2.2
theorem gdX11_setsOff_0 : (decode cX11_setsOff 0 = .ok (.bipush 90, 2)) ∧ (decode cX11_setsOff 2 = .ok (.iconst 4, 1)) ∧ (decode cX11_setsOff 3 = .ok (.iload_n 1, 1)) ∧ (decode cX11_setsOff 4 = .ok (.imul, 1)) ∧ (decode cX11_setsOff 5 = .ok (.iadd, 1)) ∧ (decode cX11_setsOff 6 = .ok (.istore_n 3, 1)) ∧ (decode cX11_setsOff 7 = .ok (.aload_n 0, 1)) ∧ (decode cX11_setsOff 8 = .ok (.getfield 45, 3)) ∧ (decode cX11_setsOff 11 = .ok (.iload_n 3, 1)) ∧ (decode cX11_setsOff 12 = .ok (.iconst 3, 1)) ∧ (decode cX11_setsOff 13 = .ok (.iadd, 1)) ∧ (decode cX11_setsOff 14 = .ok (.aload_n 0, 1)) ∧ (decode cX11_setsOff 15 = .ok (.iload_n 2, 1)) ∧ (decode cX11_setsOff 16 = .ok (.aload_n 0, 1)) ∧ (decode cX11_setsOff 17 = .ok (.getfield 45, 3)) ∧ (decode cX11_setsOff 20 = .ok (.iload_n 3, 1)) := by decide +kernel
theorem dX11_setsOff_0 : decode cX11_setsOff 0 = .ok (.bipush 90, 2) := gdX11_setsOff_0.1
theorem dX11_setsOff_2 : decode cX11_setsOff 2 = .ok (.iconst 4, 1) := gdX11_setsOff_0.2.1
theorem dX11_setsOff_3 : decode cX11_setsOff 3 = .ok (.iload_n 1, 1) := gdX11_setsOff_0.2.2.1
theorem dX11_setsOff_4 : decode cX11_setsOff 4 = .ok (.imul, 1) := gdX11_setsOff_0.2.2.2.1
theorem dX11_setsOff_5 : decode cX11_setsOff 5 = .ok (.iadd, 1) := gdX11_setsOff_0.2.2.2.2.1
theorem dX11_setsOff_6 : decode cX11_setsOff 6 = .ok (.istore_n 3, 1) := gdX11_setsOff_0.2.2.2.2.2.1
theorem dX11_setsOff_7 : decode cX11_setsOff 7 = .ok (.aload_n 0, 1) := gdX11_setsOff_0.2.2.2.2.2.2.1
theorem dX11_setsOff_8 : decode cX11_setsOff 8 = .ok (.getfield 45, 3) := gdX11_setsOff_0.2.2.2.2.2.2.2.1
theorem dX11_setsOff_11 : decode cX11_setsOff 11 = .ok (.iload_n 3, 1) := gdX11_setsOff_0.2.2.2.2.2.2.2.2.1
theorem dX11_setsOff_12 : decode cX11_setsOff 12 = .ok (.iconst 3, 1) := gdX11_setsOff_0.2.2.2.2.2.2.2.2.2.1
theorem dX11_setsOff_13 : decode cX11_setsOff 13 = .ok (.iadd, 1) := gdX11_setsOff_0.2.2.2.2.2.2.2.2.2.2.1
theorem dX11_setsOff_14 : decode cX11_setsOff 14 = .ok (.aload_n 0, 1) := gdX11_setsOff_0.2.2.2.2.2.2.2.2.2.2.2.1
theorem dX11_setsOff_15 : decode cX11_setsOff 15 = .ok (.iload_n 2, 1) := gdX11_setsOff_0.2.2.2.2.2.2.2.2.2.2.2.2.1
theorem dX11_setsOff_16 : decode cX11_setsOff 16 = .ok (.aload_n 0, 1) := gdX11_setsOff_0.2.2.2.2.2.2.2.2.2.2.2.2.2.1
theorem dX11_setsOff_17 : decode cX11_setsOff 17 = .ok (.getfield 45, 3) := gdX11_setsOff_0.2.2.2.2.2.2.2.2.2.2.2.2.2.2.1
theorem dX11_setsOff_20 : decode cX11_setsOff 20 = .ok (.iload_n 3, 1) := gdX11_setsOff_0.2.2.2.2.2.2.2.2.2.2.2.2.2.2.2
theorem gdX11_setsOff_21 : (decode cX11_setsOff 21 = .ok (.iaload, 1)) ∧ (decode cX11_setsOff 22 = .ok (.invokevirtual 293, 3)) ∧ (decode cX11_setsOff 25 = .ok (.iastore, 1)) ∧ (decode cX11_setsOff 26 = .ok (.aload_n 0, 1)) ∧ (decode cX11_setsOff 27 = .ok (.getfield 45, 3)) ∧ (decode cX11_setsOff 30 = .ok (.iload_n 3, 1)) ∧ (decode cX11_setsOff 31 = .ok (.iconst (-1), 1)) ∧ (decode cX11_setsOff 32 = .ok (.iastore, 1)) ∧ (decode cX11_setsOff 33 = .ok (.aload_n 0, 1)) ∧ (decode cX11_setsOff 34 = .ok (.getfield 45, 3)) ∧ (decode cX11_setsOff 37 = .ok (.iload_n 3, 1)) ∧ (decode cX11_setsOff 38 = .ok (.iconst 1, 1)) ∧ (decode cX11_setsOff 39 = .ok (.iadd, 1)) ∧ (decode cX11_setsOff 40 = .ok (.iload_n 2, 1)) ∧ (decode cX11_setsOff 41 = .ok (.iastore, 1)) ∧ (decode cX11_setsOff 42 = .ok (.aload_n 0, 1)) := by decide +kernel
theorem dX11_setsOff_21 : decode cX11_setsOff 21 = .ok (.iaload, 1) := gdX11_setsOff_21.1
theorem dX11_setsOff_22 : decode cX11_setsOff 22 = .ok (.invokevirtual 293, 3) := gdX11_setsOff_21.2.1
theorem dX11_setsOff_25 : decode cX11_setsOff 25 = .ok (.iastore, 1) := gdX11_setsOff_21.2.2.1
theorem dX11_setsOff_26 : decode cX11_setsOff 26 = .ok (.aload_n 0, 1) := gdX11_setsOff_21.2.2.2.1
theorem dX11_setsOff_27 : decode cX11_setsOff 27 = .ok (.getfield 45, 3) := gdX11_setsOff_21.2.2.2.2.1
theorem dX11_setsOff_30 : decode cX11_setsOff 30 = .ok (.iload_n 3, 1) := gdX11_setsOff_21.2.2.2.2.2.1
theorem dX11_setsOff_31 : decode cX11_setsOff 31 = .ok (.iconst (-1), 1) := gdX11_setsOff_21.2.2.2.2.2.2.1
theorem dX11_setsOff_32 : decode cX11_setsOff 32 = .ok (.iastore, 1) := gdX11_setsOff_21.2.2.2.2.2.2.2.1
theorem dX11_setsOff_33 : decode cX11_setsOff 33 = .ok (.aload_n 0, 1) := gdX11_setsOff_21.2.2.2.2.2.2.2.2.1
theorem dX11_setsOff_34 : decode cX11_setsOff 34 = .ok (.getfield 45, 3) := gdX11_setsOff_21.2.2.2.2.2.2.2.2.2.1
theorem dX11_setsOff_37 : decode cX11_setsOff 37 = .ok (.iload_n 3, 1) := gdX11_setsOff_21.2.2.2.2.2.2.2.2.2.2.1
theorem dX11_setsOff_38 : decode cX11_setsOff 38 = .ok (.iconst 1, 1) := gdX11_setsOff_21.2.2.2.2.2.2.2.2.2.2.2.1
theorem dX11_setsOff_39 : decode cX11_setsOff 39 = .ok (.iadd, 1) := gdX11_setsOff_21.2.2.2.2.2.2.2.2.2.2.2.2.1
theorem dX11_setsOff_40 : decode cX11_setsOff 40 = .ok (.iload_n 2, 1) := gdX11_setsOff_21.2.2.2.2.2.2.2.2.2.2.2.2.2.1
theorem dX11_setsOff_41 : decode cX11_setsOff 41 = .ok (.iastore, 1) := gdX11_setsOff_21.2.2.2.2.2.2.2.2.2.2.2.2.2.2.1
theorem dX11_setsOff_42 : decode cX11_setsOff 42 = .ok (.aload_n 0, 1) := gdX11_setsOff_21.2.2.2.2.2.2.2.2.2.2.2.2.2.2.2
theorem gdX11_setsOff_43 : (decode cX11_setsOff 43 = .ok (.getfield 45, 3)) ∧ (decode cX11_setsOff 46 = .ok (.iload_n 3, 1)) ∧ (decode cX11_setsOff 47 = .ok (.iconst 2, 1)) ∧ (decode cX11_setsOff 48 = .ok (.iadd, 1)) ∧ (decode cX11_setsOff 49 = .ok (.iconst 0, 1)) ∧ (decode cX11_setsOff 50 = .ok (.iastore, 1)) ∧ (decode cX11_setsOff 51 = .ok (.return_, 1)) := by decide +kernel
theorem dX11_setsOff_43 : decode cX11_setsOff 43 = .ok (.getfield 45, 3) := gdX11_setsOff_43.1
theorem dX11_setsOff_46 : decode cX11_setsOff 46 = .ok (.iload_n 3, 1) := gdX11_setsOff_43.2.1
theorem dX11_setsOff_47 : decode cX11_setsOff 47 = .ok (.iconst 2, 1) := gdX11_setsOff_43.2.2.1
theorem dX11_setsOff_48 : decode cX11_setsOff 48 = .ok (.iadd, 1) := gdX11_setsOff_43.2.2.2.1
theorem dX11_setsOff_49 : decode cX11_setsOff 49 = .ok (.iconst 0, 1) := gdX11_setsOff_43.2.2.2.2.1
theorem dX11_setsOff_50 : decode cX11_setsOff 50 = .ok (.iastore, 1) := gdX11_setsOff_43.2.2.2.2.2.1
theorem dX11_setsOff_51 : decode cX11_setsOff 51 = .ok (.return_, 1) := gdX11_setsOff_43.2.2.2.2.2.2
theorem gdX11_go_0 : (decode cX11_go 0 = .ok (.aload_n 0, 1)) ∧ (decode cX11_go 1 = .ok (.iload_n 1, 1)) ∧ (decode cX11_go 2 = .ok (.invokevirtual 316, 3)) ∧ (decode cX11_go 5 = .ok (.ifCond .eq 34, 3)) ∧ (decode cX11_go 8 = .ok (.aload_n 0, 1)) ∧ (decode cX11_go 9 = .ok (.iload_n 2, 1)) ∧ (decode cX11_go 10 = .ok (.invokevirtual 311, 3)) ∧ (decode cX11_go 13 = .ok (.ifCond .eq 26, 3)) ∧ (decode cX11_go 16 = .ok (.aload_n 0, 1)) ∧ (decode cX11_go 17 = .ok (.iload_n 1, 1)) ∧ (decode cX11_go 18 = .ok (.iconst 0, 1)) ∧ (decode cX11_go 19 = .ok (.invokevirtual 296, 3)) ∧ (decode cX11_go 22 = .ok (.ifCond .lt 17, 3)) ∧ (decode cX11_go 25 = .ok (.aload_n 0, 1)) ∧ (decode cX11_go 26 = .ok (.iload_n 2, 1)) ∧ (decode cX11_go 27 = .ok (.aload_n 0, 1)) := by decide +kernel
theorem dX11_go_0 : decode cX11_go 0 = .ok (.aload_n 0, 1) := gdX11_go_0.1
theorem dX11_go_1 : decode cX11_go 1 = .ok (.iload_n 1, 1) := gdX11_go_0.2.1
theorem dX11_go_2 : decode cX11_go 2 = .ok (.invokevirtual 316, 3) := gdX11_go_0.2.2.1
theorem dX11_go_5 : decode cX11_go 5 = .ok (.ifCond .eq 34, 3) := gdX11_go_0.2.2.2.1
theorem dX11_go_8 : decode cX11_go 8 = .ok (.aload_n 0, 1) := gdX11_go_0.2.2.2.2.1
theorem dX11_go_9 : decode cX11_go 9 = .ok (.iload_n 2, 1) := gdX11_go_0.2.2.2.2.2.1
theorem dX11_go_10 : decode cX11_go 10 = .ok (.invokevirtual 311, 3) := gdX11_go_0.2.2.2.2.2.2.1
theorem dX11_go_13 : decode cX11_go 13 = .ok (.ifCond .eq 26, 3) := gdX11_go_0.2.2.2.2.2.2.2.1
theorem dX11_go_16 : decode cX11_go 16 = .ok (.aload_n 0, 1) := gdX11_go_0.2.2.2.2.2.2.2.2.1
theorem dX11_go_17 : decode cX11_go 17 = .ok (.iload_n 1, 1) := gdX11_go_0.2.2.2.2.2.2.2.2.2.1
theorem dX11_go_18 : decode cX11_go 18 = .ok (.iconst 0, 1) := gdX11_go_0.2.2.2.2.2.2.2.2.2.2.1
theorem dX11_go_19 : decode cX11_go 19 = .ok (.invokevirtual 296, 3) := gdX11_go_0.2.2.2.2.2.2.2.2.2.2.2.1
theorem dX11_go_22 : decode cX11_go 22 = .ok (.ifCond .lt 17, 3) := gdX11_go_0.2.2.2.2.2.2.2.2.2.2.2.2.1
theorem dX11_go_25 : decode cX11_go 25 = .ok (.aload_n 0, 1) := gdX11_go_0.2.2.2.2.2.2.2.2.2.2.2.2.2.1
theorem dX11_go_26 : decode cX11_go 26 = .ok (.iload_n 2, 1) := gdX11_go_0.2.2.2.2.2.2.2.2.2.2.2.2.2.2.1
theorem dX11_go_27 : decode cX11_go 27 = .ok (.aload_n 0, 1) := gdX11_go_0.2.2.2.2.2.2.2.2.2.2.2.2.2.2.2
theorem gdX11_go_28 : (decode cX11_go 28 = .ok (.iload_n 1, 1)) ∧ (decode cX11_go 29 = .ok (.iconst 0, 1)) ∧ (decode cX11_go 30 = .ok (.invokevirtual 296, 3)) ∧ (decode cX11_go 33 = .ok (.invokevirtual 293, 3)) ∧ (decode cX11_go 36 = .ok (.ifCond .ge 5, 3)) ∧ (decode cX11_go 39 = .ok (.iconst 0, 1)) ∧ (decode cX11_go 40 = .ok (.ireturn, 1)) ∧ (decode cX11_go 41 = .ok (.aload_n 0, 1)) ∧ (decode cX11_go 42 = .ok (.iload_n 1, 1)) ∧ (decode cX11_go 43 = .ok (.iload_n 2, 1)) ∧ (decode cX11_go 44 = .ok (.invokevirtual 323, 3)) ∧ (decode cX11_go 47 = .ok (.iconst 1, 1)) ∧ (decode cX11_go 48 = .ok (.ireturn, 1)) := by decide +kernel
theorem dX11_go_28 : decode cX11_go 28 = .ok (.iload_n 1, 1) := gdX11_go_28.1
theorem dX11_go_29 : decode cX11_go 29 = .ok (.iconst 0, 1) := gdX11_go_28.2.1
theorem dX11_go_30 : decode cX11_go 30 = .ok (.invokevirtual 296, 3) := gdX11_go_28.2.2.1
theorem dX11_go_33 : decode cX11_go 33 = .ok (.invokevirtual 293, 3) := gdX11_go_28.2.2.2.1
theorem dX11_go_36 : decode cX11_go 36 = .ok (.ifCond .ge 5, 3) := gdX11_go_28.2.2.2.2.1
theorem dX11_go_39 : decode cX11_go 39 = .ok (.iconst 0, 1) := gdX11_go_28.2.2.2.2.2.1
theorem dX11_go_40 : decode cX11_go 40 = .ok (.ireturn, 1) := gdX11_go_28.2.2.2.2.2.2.1
theorem dX11_go_41 : decode cX11_go 41 = .ok (.aload_n 0, 1) := gdX11_go_28.2.2.2.2.2.2.2.1
theorem dX11_go_42 : decode cX11_go 42 = .ok (.iload_n 1, 1) := gdX11_go_28.2.2.2.2.2.2.2.2.1
theorem dX11_go_43 : decode cX11_go 43 = .ok (.iload_n 2, 1) := gdX11_go_28.2.2.2.2.2.2.2.2.2.1
theorem dX11_go_44 : decode cX11_go 44 = .ok (.invokevirtual 323, 3) := gdX11_go_28.2.2.2.2.2.2.2.2.2.2.1
theorem dX11_go_47 : decode cX11_go 47 = .ok (.iconst 1, 1) := gdX11_go_28.2.2.2.2.2.2.2.2.2.2.2.1
theorem dX11_go_48 : decode cX11_go 48 = .ok (.ireturn, 1) := gdX11_go_28.2.2.2.2.2.2.2.2.2.2.2.2
theorem gdX11_words_0 : (decode cX11_words 0 = .ok (.aload_n 0, 1)) ∧ (decode cX11_words 1 = .ok (.iload_n 1, 1)) ∧ (decode cX11_words 2 = .ok (.iconst 0, 1)) ∧ (decode cX11_words 3 = .ok (.invokevirtual 296, 3)) ∧ (decode cX11_words 6 = .ok (.istore_n 2, 1)) ∧ (decode cX11_words 7 = .ok (.aload_n 0, 1)) ∧ (decode cX11_words 8 = .ok (.getfield 42, 3)) ∧ (decode cX11_words 11 = .ok (.iconst 0, 1)) ∧ (decode cX11_words 12 = .ok (.aload_n 0, 1)) ∧ (decode cX11_words 13 = .ok (.getfield 45, 3)) ∧ (decode cX11_words 16 = .ok (.iconst 3, 1)) ∧ (decode cX11_words 17 = .ok (.iaload, 1)) ∧ (decode cX11_words 18 = .ok (.i2l, 1)) ∧ (decode cX11_words 19 = .ok (.lastore, 1)) ∧ (decode cX11_words 20 = .ok (.aload_n 0, 1)) ∧ (decode cX11_words 21 = .ok (.getfield 42, 3)) := by decide +kernel
theorem dX11_words_0 : decode cX11_words 0 = .ok (.aload_n 0, 1) := gdX11_words_0.1
theorem dX11_words_1 : decode cX11_words 1 = .ok (.iload_n 1, 1) := gdX11_words_0.2.1
theorem dX11_words_2 : decode cX11_words 2 = .ok (.iconst 0, 1) := gdX11_words_0.2.2.1
theorem dX11_words_3 : decode cX11_words 3 = .ok (.invokevirtual 296, 3) := gdX11_words_0.2.2.2.1
theorem dX11_words_6 : decode cX11_words 6 = .ok (.istore_n 2, 1) := gdX11_words_0.2.2.2.2.1
theorem dX11_words_7 : decode cX11_words 7 = .ok (.aload_n 0, 1) := gdX11_words_0.2.2.2.2.2.1
theorem dX11_words_8 : decode cX11_words 8 = .ok (.getfield 42, 3) := gdX11_words_0.2.2.2.2.2.2.1
theorem dX11_words_11 : decode cX11_words 11 = .ok (.iconst 0, 1) := gdX11_words_0.2.2.2.2.2.2.2.1
theorem dX11_words_12 : decode cX11_words 12 = .ok (.aload_n 0, 1) := gdX11_words_0.2.2.2.2.2.2.2.2.1
theorem dX11_words_13 : decode cX11_words 13 = .ok (.getfield 45, 3) := gdX11_words_0.2.2.2.2.2.2.2.2.2.1
theorem dX11_words_16 : decode cX11_words 16 = .ok (.iconst 3, 1) := gdX11_words_0.2.2.2.2.2.2.2.2.2.2.1
theorem dX11_words_17 : decode cX11_words 17 = .ok (.iaload, 1) := gdX11_words_0.2.2.2.2.2.2.2.2.2.2.2.1
theorem dX11_words_18 : decode cX11_words 18 = .ok (.i2l, 1) := gdX11_words_0.2.2.2.2.2.2.2.2.2.2.2.2.1
theorem dX11_words_19 : decode cX11_words 19 = .ok (.lastore, 1) := gdX11_words_0.2.2.2.2.2.2.2.2.2.2.2.2.2.1
theorem dX11_words_20 : decode cX11_words 20 = .ok (.aload_n 0, 1) := gdX11_words_0.2.2.2.2.2.2.2.2.2.2.2.2.2.2.1
theorem dX11_words_21 : decode cX11_words 21 = .ok (.getfield 42, 3) := gdX11_words_0.2.2.2.2.2.2.2.2.2.2.2.2.2.2.2
theorem gdX11_words_24 : (decode cX11_words 24 = .ok (.iconst 1, 1)) ∧ (decode cX11_words 25 = .ok (.iload_n 1, 1)) ∧ (decode cX11_words 26 = .ok (.i2l, 1)) ∧ (decode cX11_words 27 = .ok (.lastore, 1)) ∧ (decode cX11_words 28 = .ok (.aload_n 0, 1)) ∧ (decode cX11_words 29 = .ok (.getfield 42, 3)) ∧ (decode cX11_words 32 = .ok (.iconst 2, 1)) ∧ (decode cX11_words 33 = .ok (.iload_n 2, 1)) ∧ (decode cX11_words 34 = .ok (.i2l, 1)) ∧ (decode cX11_words 35 = .ok (.lastore, 1)) ∧ (decode cX11_words 36 = .ok (.aload_n 0, 1)) ∧ (decode cX11_words 37 = .ok (.getfield 42, 3)) ∧ (decode cX11_words 40 = .ok (.iconst 3, 1)) ∧ (decode cX11_words 41 = .ok (.aload_n 0, 1)) ∧ (decode cX11_words 42 = .ok (.getfield 48, 3)) ∧ (decode cX11_words 45 = .ok (.iload_n 1, 1)) := by decide +kernel
theorem dX11_words_24 : decode cX11_words 24 = .ok (.iconst 1, 1) := gdX11_words_24.1
theorem dX11_words_25 : decode cX11_words 25 = .ok (.iload_n 1, 1) := gdX11_words_24.2.1
theorem dX11_words_26 : decode cX11_words 26 = .ok (.i2l, 1) := gdX11_words_24.2.2.1
theorem dX11_words_27 : decode cX11_words 27 = .ok (.lastore, 1) := gdX11_words_24.2.2.2.1
theorem dX11_words_28 : decode cX11_words 28 = .ok (.aload_n 0, 1) := gdX11_words_24.2.2.2.2.1
theorem dX11_words_29 : decode cX11_words 29 = .ok (.getfield 42, 3) := gdX11_words_24.2.2.2.2.2.1
theorem dX11_words_32 : decode cX11_words 32 = .ok (.iconst 2, 1) := gdX11_words_24.2.2.2.2.2.2.1
theorem dX11_words_33 : decode cX11_words 33 = .ok (.iload_n 2, 1) := gdX11_words_24.2.2.2.2.2.2.2.1
theorem dX11_words_34 : decode cX11_words 34 = .ok (.i2l, 1) := gdX11_words_24.2.2.2.2.2.2.2.2.1
theorem dX11_words_35 : decode cX11_words 35 = .ok (.lastore, 1) := gdX11_words_24.2.2.2.2.2.2.2.2.2.1
theorem dX11_words_36 : decode cX11_words 36 = .ok (.aload_n 0, 1) := gdX11_words_24.2.2.2.2.2.2.2.2.2.2.1
theorem dX11_words_37 : decode cX11_words 37 = .ok (.getfield 42, 3) := gdX11_words_24.2.2.2.2.2.2.2.2.2.2.2.1
theorem dX11_words_40 : decode cX11_words 40 = .ok (.iconst 3, 1) := gdX11_words_24.2.2.2.2.2.2.2.2.2.2.2.2.1
theorem dX11_words_41 : decode cX11_words 41 = .ok (.aload_n 0, 1) := gdX11_words_24.2.2.2.2.2.2.2.2.2.2.2.2.2.1
theorem dX11_words_42 : decode cX11_words 42 = .ok (.getfield 48, 3) := gdX11_words_24.2.2.2.2.2.2.2.2.2.2.2.2.2.2.1
theorem dX11_words_45 : decode cX11_words 45 = .ok (.iload_n 1, 1) := gdX11_words_24.2.2.2.2.2.2.2.2.2.2.2.2.2.2.2
theorem gdX11_words_46 : (decode cX11_words 46 = .ok (.laload, 1)) ∧ (decode cX11_words 47 = .ok (.ldc2_w 281, 3)) ∧ (decode cX11_words 50 = .ok (.ldiv, 1)) ∧ (decode cX11_words 51 = .ok (.lastore, 1)) ∧ (decode cX11_words 52 = .ok (.aload_n 0, 1)) ∧ (decode cX11_words 53 = .ok (.getfield 42, 3)) ∧ (decode cX11_words 56 = .ok (.iconst 4, 1)) ∧ (decode cX11_words 57 = .ok (.aload_n 0, 1)) ∧ (decode cX11_words 58 = .ok (.iload_n 2, 1)) ∧ (decode cX11_words 59 = .ok (.invokevirtual 304, 3)) ∧ (decode cX11_words 62 = .ok (.i2l, 1)) ∧ (decode cX11_words 63 = .ok (.lastore, 1)) ∧ (decode cX11_words 64 = .ok (.aload_n 0, 1)) ∧ (decode cX11_words 65 = .ok (.getfield 42, 3)) ∧ (decode cX11_words 68 = .ok (.iconst 5, 1)) ∧ (decode cX11_words 69 = .ok (.sipush 1000, 3)) := by decide +kernel
theorem dX11_words_46 : decode cX11_words 46 = .ok (.laload, 1) := gdX11_words_46.1
theorem dX11_words_47 : decode cX11_words 47 = .ok (.ldc2_w 281, 3) := gdX11_words_46.2.1
theorem dX11_words_50 : decode cX11_words 50 = .ok (.ldiv, 1) := gdX11_words_46.2.2.1
theorem dX11_words_51 : decode cX11_words 51 = .ok (.lastore, 1) := gdX11_words_46.2.2.2.1
theorem dX11_words_52 : decode cX11_words 52 = .ok (.aload_n 0, 1) := gdX11_words_46.2.2.2.2.1
theorem dX11_words_53 : decode cX11_words 53 = .ok (.getfield 42, 3) := gdX11_words_46.2.2.2.2.2.1
theorem dX11_words_56 : decode cX11_words 56 = .ok (.iconst 4, 1) := gdX11_words_46.2.2.2.2.2.2.1
theorem dX11_words_57 : decode cX11_words 57 = .ok (.aload_n 0, 1) := gdX11_words_46.2.2.2.2.2.2.2.1
theorem dX11_words_58 : decode cX11_words 58 = .ok (.iload_n 2, 1) := gdX11_words_46.2.2.2.2.2.2.2.2.1
theorem dX11_words_59 : decode cX11_words 59 = .ok (.invokevirtual 304, 3) := gdX11_words_46.2.2.2.2.2.2.2.2.2.1
theorem dX11_words_62 : decode cX11_words 62 = .ok (.i2l, 1) := gdX11_words_46.2.2.2.2.2.2.2.2.2.2.1
theorem dX11_words_63 : decode cX11_words 63 = .ok (.lastore, 1) := gdX11_words_46.2.2.2.2.2.2.2.2.2.2.2.1
theorem dX11_words_64 : decode cX11_words 64 = .ok (.aload_n 0, 1) := gdX11_words_46.2.2.2.2.2.2.2.2.2.2.2.2.1
theorem dX11_words_65 : decode cX11_words 65 = .ok (.getfield 42, 3) := gdX11_words_46.2.2.2.2.2.2.2.2.2.2.2.2.2.1
theorem dX11_words_68 : decode cX11_words 68 = .ok (.iconst 5, 1) := gdX11_words_46.2.2.2.2.2.2.2.2.2.2.2.2.2.2.1
theorem dX11_words_69 : decode cX11_words 69 = .ok (.sipush 1000, 3) := gdX11_words_46.2.2.2.2.2.2.2.2.2.2.2.2.2.2.2
theorem gdX11_words_72 : (decode cX11_words 72 = .ok (.aload_n 0, 1)) ∧ (decode cX11_words 73 = .ok (.getfield 45, 3)) ∧ (decode cX11_words 76 = .ok (.bipush 10, 2)) ∧ (decode cX11_words 78 = .ok (.iconst 2, 1)) ∧ (decode cX11_words 79 = .ok (.iload_n 2, 1)) ∧ (decode cX11_words 80 = .ok (.imul, 1)) ∧ (decode cX11_words 81 = .ok (.iadd, 1)) ∧ (decode cX11_words 82 = .ok (.iaload, 1)) ∧ (decode cX11_words 83 = .ok (.imul, 1)) ∧ (decode cX11_words 84 = .ok (.aload_n 0, 1)) ∧ (decode cX11_words 85 = .ok (.getfield 45, 3)) ∧ (decode cX11_words 88 = .ok (.bipush 10, 2)) ∧ (decode cX11_words 90 = .ok (.iconst 2, 1)) ∧ (decode cX11_words 91 = .ok (.iload_n 2, 1)) ∧ (decode cX11_words 92 = .ok (.imul, 1)) ∧ (decode cX11_words 93 = .ok (.iadd, 1)) := by decide +kernel
theorem dX11_words_72 : decode cX11_words 72 = .ok (.aload_n 0, 1) := gdX11_words_72.1
theorem dX11_words_73 : decode cX11_words 73 = .ok (.getfield 45, 3) := gdX11_words_72.2.1
theorem dX11_words_76 : decode cX11_words 76 = .ok (.bipush 10, 2) := gdX11_words_72.2.2.1
theorem dX11_words_78 : decode cX11_words 78 = .ok (.iconst 2, 1) := gdX11_words_72.2.2.2.1
theorem dX11_words_79 : decode cX11_words 79 = .ok (.iload_n 2, 1) := gdX11_words_72.2.2.2.2.1
theorem dX11_words_80 : decode cX11_words 80 = .ok (.imul, 1) := gdX11_words_72.2.2.2.2.2.1
theorem dX11_words_81 : decode cX11_words 81 = .ok (.iadd, 1) := gdX11_words_72.2.2.2.2.2.2.1
theorem dX11_words_82 : decode cX11_words 82 = .ok (.iaload, 1) := gdX11_words_72.2.2.2.2.2.2.2.1
theorem dX11_words_83 : decode cX11_words 83 = .ok (.imul, 1) := gdX11_words_72.2.2.2.2.2.2.2.2.1
theorem dX11_words_84 : decode cX11_words 84 = .ok (.aload_n 0, 1) := gdX11_words_72.2.2.2.2.2.2.2.2.2.1
theorem dX11_words_85 : decode cX11_words 85 = .ok (.getfield 45, 3) := gdX11_words_72.2.2.2.2.2.2.2.2.2.2.1
theorem dX11_words_88 : decode cX11_words 88 = .ok (.bipush 10, 2) := gdX11_words_72.2.2.2.2.2.2.2.2.2.2.2.1
theorem dX11_words_90 : decode cX11_words 90 = .ok (.iconst 2, 1) := gdX11_words_72.2.2.2.2.2.2.2.2.2.2.2.2.1
theorem dX11_words_91 : decode cX11_words 91 = .ok (.iload_n 2, 1) := gdX11_words_72.2.2.2.2.2.2.2.2.2.2.2.2.2.1
theorem dX11_words_92 : decode cX11_words 92 = .ok (.imul, 1) := gdX11_words_72.2.2.2.2.2.2.2.2.2.2.2.2.2.2.1
theorem dX11_words_93 : decode cX11_words 93 = .ok (.iadd, 1) := gdX11_words_72.2.2.2.2.2.2.2.2.2.2.2.2.2.2.2
theorem gdX11_words_94 : (decode cX11_words 94 = .ok (.iconst 1, 1)) ∧ (decode cX11_words 95 = .ok (.iadd, 1)) ∧ (decode cX11_words 96 = .ok (.iaload, 1)) ∧ (decode cX11_words 97 = .ok (.idiv, 1)) ∧ (decode cX11_words 98 = .ok (.i2l, 1)) ∧ (decode cX11_words 99 = .ok (.lastore, 1)) ∧ (decode cX11_words 100 = .ok (.aload_n 0, 1)) ∧ (decode cX11_words 101 = .ok (.getfield 42, 3)) ∧ (decode cX11_words 104 = .ok (.bipush 6, 2)) ∧ (decode cX11_words 106 = .ok (.lconst 1, 1)) ∧ (decode cX11_words 107 = .ok (.lastore, 1)) ∧ (decode cX11_words 108 = .ok (.aload_n 0, 1)) ∧ (decode cX11_words 109 = .ok (.getfield 42, 3)) ∧ (decode cX11_words 112 = .ok (.bipush 7, 2)) ∧ (decode cX11_words 114 = .ok (.lconst 1, 1)) ∧ (decode cX11_words 115 = .ok (.lastore, 1)) := by decide +kernel
theorem dX11_words_94 : decode cX11_words 94 = .ok (.iconst 1, 1) := gdX11_words_94.1
theorem dX11_words_95 : decode cX11_words 95 = .ok (.iadd, 1) := gdX11_words_94.2.1
theorem dX11_words_96 : decode cX11_words 96 = .ok (.iaload, 1) := gdX11_words_94.2.2.1
theorem dX11_words_97 : decode cX11_words 97 = .ok (.idiv, 1) := gdX11_words_94.2.2.2.1
theorem dX11_words_98 : decode cX11_words 98 = .ok (.i2l, 1) := gdX11_words_94.2.2.2.2.1
theorem dX11_words_99 : decode cX11_words 99 = .ok (.lastore, 1) := gdX11_words_94.2.2.2.2.2.1
theorem dX11_words_100 : decode cX11_words 100 = .ok (.aload_n 0, 1) := gdX11_words_94.2.2.2.2.2.2.1
theorem dX11_words_101 : decode cX11_words 101 = .ok (.getfield 42, 3) := gdX11_words_94.2.2.2.2.2.2.2.1
theorem dX11_words_104 : decode cX11_words 104 = .ok (.bipush 6, 2) := gdX11_words_94.2.2.2.2.2.2.2.2.1
theorem dX11_words_106 : decode cX11_words 106 = .ok (.lconst 1, 1) := gdX11_words_94.2.2.2.2.2.2.2.2.2.1
theorem dX11_words_107 : decode cX11_words 107 = .ok (.lastore, 1) := gdX11_words_94.2.2.2.2.2.2.2.2.2.2.1
theorem dX11_words_108 : decode cX11_words 108 = .ok (.aload_n 0, 1) := gdX11_words_94.2.2.2.2.2.2.2.2.2.2.2.1
theorem dX11_words_109 : decode cX11_words 109 = .ok (.getfield 42, 3) := gdX11_words_94.2.2.2.2.2.2.2.2.2.2.2.2.1
theorem dX11_words_112 : decode cX11_words 112 = .ok (.bipush 7, 2) := gdX11_words_94.2.2.2.2.2.2.2.2.2.2.2.2.2.1
theorem dX11_words_114 : decode cX11_words 114 = .ok (.lconst 1, 1) := gdX11_words_94.2.2.2.2.2.2.2.2.2.2.2.2.2.2.1
theorem dX11_words_115 : decode cX11_words 115 = .ok (.lastore, 1) := gdX11_words_94.2.2.2.2.2.2.2.2.2.2.2.2.2.2.2
theorem gdX11_words_116 : (decode cX11_words 116 = .ok (.iconst 0, 1)) ∧ (decode cX11_words 117 = .ok (.istore_n 3, 1)) ∧ (decode cX11_words 118 = .ok (.iload_n 3, 1)) ∧ (decode cX11_words 119 = .ok (.aload_n 0, 1)) ∧ (decode cX11_words 120 = .ok (.getfield 45, 3)) ∧ (decode cX11_words 123 = .ok (.iconst 2, 1)) ∧ (decode cX11_words 124 = .ok (.iaload, 1)) ∧ (decode cX11_words 125 = .ok (.if_icmp .ge 57, 3)) ∧ (decode cX11_words 128 = .ok (.aload_n 0, 1)) ∧ (decode cX11_words 129 = .ok (.getfield 48, 3)) ∧ (decode cX11_words 132 = .ok (.iload_n 3, 1)) ∧ (decode cX11_words 133 = .ok (.laload, 1)) ∧ (decode cX11_words 134 = .ok (.aload_n 0, 1)) ∧ (decode cX11_words 135 = .ok (.getfield 48, 3)) ∧ (decode cX11_words 138 = .ok (.iload_n 1, 1)) ∧ (decode cX11_words 139 = .ok (.laload, 1)) := by decide +kernel
theorem dX11_words_116 : decode cX11_words 116 = .ok (.iconst 0, 1) := gdX11_words_116.1
theorem dX11_words_117 : decode cX11_words 117 = .ok (.istore_n 3, 1) := gdX11_words_116.2.1
theorem dX11_words_118 : decode cX11_words 118 = .ok (.iload_n 3, 1) := gdX11_words_116.2.2.1
theorem dX11_words_119 : decode cX11_words 119 = .ok (.aload_n 0, 1) := gdX11_words_116.2.2.2.1
theorem dX11_words_120 : decode cX11_words 120 = .ok (.getfield 45, 3) := gdX11_words_116.2.2.2.2.1
theorem dX11_words_123 : decode cX11_words 123 = .ok (.iconst 2, 1) := gdX11_words_116.2.2.2.2.2.1
theorem dX11_words_124 : decode cX11_words 124 = .ok (.iaload, 1) := gdX11_words_116.2.2.2.2.2.2.1
theorem dX11_words_125 : decode cX11_words 125 = .ok (.if_icmp .ge 57, 3) := gdX11_words_116.2.2.2.2.2.2.2.1
theorem dX11_words_128 : decode cX11_words 128 = .ok (.aload_n 0, 1) := gdX11_words_116.2.2.2.2.2.2.2.2.1
theorem dX11_words_129 : decode cX11_words 129 = .ok (.getfield 48, 3) := gdX11_words_116.2.2.2.2.2.2.2.2.2.1
theorem dX11_words_132 : decode cX11_words 132 = .ok (.iload_n 3, 1) := gdX11_words_116.2.2.2.2.2.2.2.2.2.2.1
theorem dX11_words_133 : decode cX11_words 133 = .ok (.laload, 1) := gdX11_words_116.2.2.2.2.2.2.2.2.2.2.2.1
theorem dX11_words_134 : decode cX11_words 134 = .ok (.aload_n 0, 1) := gdX11_words_116.2.2.2.2.2.2.2.2.2.2.2.2.1
theorem dX11_words_135 : decode cX11_words 135 = .ok (.getfield 48, 3) := gdX11_words_116.2.2.2.2.2.2.2.2.2.2.2.2.2.1
theorem dX11_words_138 : decode cX11_words 138 = .ok (.iload_n 1, 1) := gdX11_words_116.2.2.2.2.2.2.2.2.2.2.2.2.2.2.1
theorem dX11_words_139 : decode cX11_words 139 = .ok (.laload, 1) := gdX11_words_116.2.2.2.2.2.2.2.2.2.2.2.2.2.2.2
theorem gdX11_words_140 : (decode cX11_words 140 = .ok (.lcmp, 1)) ∧ (decode cX11_words 141 = .ok (.ifCond .le 11, 3)) ∧ (decode cX11_words 144 = .ok (.aload_n 0, 1)) ∧ (decode cX11_words 145 = .ok (.getfield 42, 3)) ∧ (decode cX11_words 148 = .ok (.bipush 6, 2)) ∧ (decode cX11_words 150 = .ok (.lconst 0, 1)) ∧ (decode cX11_words 151 = .ok (.lastore, 1)) ∧ (decode cX11_words 152 = .ok (.aload_n 0, 1)) ∧ (decode cX11_words 153 = .ok (.getfield 48, 3)) ∧ (decode cX11_words 156 = .ok (.iload_n 3, 1)) ∧ (decode cX11_words 157 = .ok (.laload, 1)) ∧ (decode cX11_words 158 = .ok (.aload_n 0, 1)) ∧ (decode cX11_words 159 = .ok (.getfield 48, 3)) ∧ (decode cX11_words 162 = .ok (.iload_n 1, 1)) ∧ (decode cX11_words 163 = .ok (.laload, 1)) ∧ (decode cX11_words 164 = .ok (.lcmp, 1)) := by decide +kernel
theorem dX11_words_140 : decode cX11_words 140 = .ok (.lcmp, 1) := gdX11_words_140.1
theorem dX11_words_141 : decode cX11_words 141 = .ok (.ifCond .le 11, 3) := gdX11_words_140.2.1
theorem dX11_words_144 : decode cX11_words 144 = .ok (.aload_n 0, 1) := gdX11_words_140.2.2.1
theorem dX11_words_145 : decode cX11_words 145 = .ok (.getfield 42, 3) := gdX11_words_140.2.2.2.1
theorem dX11_words_148 : decode cX11_words 148 = .ok (.bipush 6, 2) := gdX11_words_140.2.2.2.2.1
theorem dX11_words_150 : decode cX11_words 150 = .ok (.lconst 0, 1) := gdX11_words_140.2.2.2.2.2.1
theorem dX11_words_151 : decode cX11_words 151 = .ok (.lastore, 1) := gdX11_words_140.2.2.2.2.2.2.1
theorem dX11_words_152 : decode cX11_words 152 = .ok (.aload_n 0, 1) := gdX11_words_140.2.2.2.2.2.2.2.1
theorem dX11_words_153 : decode cX11_words 153 = .ok (.getfield 48, 3) := gdX11_words_140.2.2.2.2.2.2.2.2.1
theorem dX11_words_156 : decode cX11_words 156 = .ok (.iload_n 3, 1) := gdX11_words_140.2.2.2.2.2.2.2.2.2.1
theorem dX11_words_157 : decode cX11_words 157 = .ok (.laload, 1) := gdX11_words_140.2.2.2.2.2.2.2.2.2.2.1
theorem dX11_words_158 : decode cX11_words 158 = .ok (.aload_n 0, 1) := gdX11_words_140.2.2.2.2.2.2.2.2.2.2.2.1
theorem dX11_words_159 : decode cX11_words 159 = .ok (.getfield 48, 3) := gdX11_words_140.2.2.2.2.2.2.2.2.2.2.2.2.1
theorem dX11_words_162 : decode cX11_words 162 = .ok (.iload_n 1, 1) := gdX11_words_140.2.2.2.2.2.2.2.2.2.2.2.2.2.1
theorem dX11_words_163 : decode cX11_words 163 = .ok (.laload, 1) := gdX11_words_140.2.2.2.2.2.2.2.2.2.2.2.2.2.2.1
theorem dX11_words_164 : decode cX11_words 164 = .ok (.lcmp, 1) := gdX11_words_140.2.2.2.2.2.2.2.2.2.2.2.2.2.2.2
theorem gdX11_words_165 : (decode cX11_words 165 = .ok (.ifCond .ge 11, 3)) ∧ (decode cX11_words 168 = .ok (.aload_n 0, 1)) ∧ (decode cX11_words 169 = .ok (.getfield 42, 3)) ∧ (decode cX11_words 172 = .ok (.bipush 7, 2)) ∧ (decode cX11_words 174 = .ok (.lconst 0, 1)) ∧ (decode cX11_words 175 = .ok (.lastore, 1)) ∧ (decode cX11_words 176 = .ok (.iinc 3 1, 3)) ∧ (decode cX11_words 179 = .ok (.goto (-61), 3)) ∧ (decode cX11_words 182 = .ok (.return_, 1)) := by decide +kernel
theorem dX11_words_165 : decode cX11_words 165 = .ok (.ifCond .ge 11, 3) := gdX11_words_165.1
theorem dX11_words_168 : decode cX11_words 168 = .ok (.aload_n 0, 1) := gdX11_words_165.2.1
theorem dX11_words_169 : decode cX11_words 169 = .ok (.getfield 42, 3) := gdX11_words_165.2.2.1
theorem dX11_words_172 : decode cX11_words 172 = .ok (.bipush 7, 2) := gdX11_words_165.2.2.2.1
theorem dX11_words_174 : decode cX11_words 174 = .ok (.lconst 0, 1) := gdX11_words_165.2.2.2.2.1
theorem dX11_words_175 : decode cX11_words 175 = .ok (.lastore, 1) := gdX11_words_165.2.2.2.2.2.1
theorem dX11_words_176 : decode cX11_words 176 = .ok (.iinc 3 1, 3) := gdX11_words_165.2.2.2.2.2.2.1
theorem dX11_words_179 : decode cX11_words 179 = .ok (.goto (-61), 3) := gdX11_words_165.2.2.2.2.2.2.2.1
theorem dX11_words_182 : decode cX11_words 182 = .ok (.return_, 1) := gdX11_words_165.2.2.2.2.2.2.2.2
theorem gdX11_sent_0 : (decode cX11_sent 0 = .ok (.aload_n 0, 1)) ∧ (decode cX11_sent 1 = .ok (.iload_n 2, 1)) ∧ (decode cX11_sent 2 = .ok (.invokevirtual 326, 3)) ∧ (decode cX11_sent 5 = .ok (.iconst 0, 1)) ∧ (decode cX11_sent 6 = .ok (.istore_n 3, 1)) ∧ (decode cX11_sent 7 = .ok (.iload_n 3, 1)) ∧ (decode cX11_sent 8 = .ok (.aload_n 0, 1)) ∧ (decode cX11_sent 9 = .ok (.getfield 23, 3)) ∧ (decode cX11_sent 12 = .ok (.iload_n 1, 1)) ∧ (decode cX11_sent 13 = .ok (.iaload, 1)) ∧ (decode cX11_sent 14 = .ok (.if_icmp .ge 67, 3)) ∧ (decode cX11_sent 17 = .ok (.bipush 36, 2)) ∧ (decode cX11_sent 19 = .ok (.iload_n 1, 1)) ∧ (decode cX11_sent 20 = .ok (.imul, 1)) ∧ (decode cX11_sent 21 = .ok (.iconst 3, 1)) ∧ (decode cX11_sent 22 = .ok (.iload_n 3, 1)) := by decide +kernel
theorem dX11_sent_0 : decode cX11_sent 0 = .ok (.aload_n 0, 1) := gdX11_sent_0.1
theorem dX11_sent_1 : decode cX11_sent 1 = .ok (.iload_n 2, 1) := gdX11_sent_0.2.1
theorem dX11_sent_2 : decode cX11_sent 2 = .ok (.invokevirtual 326, 3) := gdX11_sent_0.2.2.1
theorem dX11_sent_5 : decode cX11_sent 5 = .ok (.iconst 0, 1) := gdX11_sent_0.2.2.2.1
theorem dX11_sent_6 : decode cX11_sent 6 = .ok (.istore_n 3, 1) := gdX11_sent_0.2.2.2.2.1
theorem dX11_sent_7 : decode cX11_sent 7 = .ok (.iload_n 3, 1) := gdX11_sent_0.2.2.2.2.2.1
theorem dX11_sent_8 : decode cX11_sent 8 = .ok (.aload_n 0, 1) := gdX11_sent_0.2.2.2.2.2.2.1
theorem dX11_sent_9 : decode cX11_sent 9 = .ok (.getfield 23, 3) := gdX11_sent_0.2.2.2.2.2.2.2.1
theorem dX11_sent_12 : decode cX11_sent 12 = .ok (.iload_n 1, 1) := gdX11_sent_0.2.2.2.2.2.2.2.2.1
theorem dX11_sent_13 : decode cX11_sent 13 = .ok (.iaload, 1) := gdX11_sent_0.2.2.2.2.2.2.2.2.2.1
theorem dX11_sent_14 : decode cX11_sent 14 = .ok (.if_icmp .ge 67, 3) := gdX11_sent_0.2.2.2.2.2.2.2.2.2.2.1
theorem dX11_sent_17 : decode cX11_sent 17 = .ok (.bipush 36, 2) := gdX11_sent_0.2.2.2.2.2.2.2.2.2.2.2.1
theorem dX11_sent_19 : decode cX11_sent 19 = .ok (.iload_n 1, 1) := gdX11_sent_0.2.2.2.2.2.2.2.2.2.2.2.2.1
theorem dX11_sent_20 : decode cX11_sent 20 = .ok (.imul, 1) := gdX11_sent_0.2.2.2.2.2.2.2.2.2.2.2.2.2.1
theorem dX11_sent_21 : decode cX11_sent 21 = .ok (.iconst 3, 1) := gdX11_sent_0.2.2.2.2.2.2.2.2.2.2.2.2.2.2.1
theorem dX11_sent_22 : decode cX11_sent 22 = .ok (.iload_n 3, 1) := gdX11_sent_0.2.2.2.2.2.2.2.2.2.2.2.2.2.2.2
theorem gdX11_sent_23 : (decode cX11_sent 23 = .ok (.imul, 1)) ∧ (decode cX11_sent 24 = .ok (.iadd, 1)) ∧ (decode cX11_sent 25 = .ok (.istore 4, 2)) ∧ (decode cX11_sent 27 = .ok (.aload_n 0, 1)) ∧ (decode cX11_sent 28 = .ok (.getfield 20, 3)) ∧ (decode cX11_sent 31 = .ok (.iload 4, 2)) ∧ (decode cX11_sent 33 = .ok (.iconst 1, 1)) ∧ (decode cX11_sent 34 = .ok (.iadd, 1)) ∧ (decode cX11_sent 35 = .ok (.iaload, 1)) ∧ (decode cX11_sent 36 = .ok (.ifCond .lt 31, 3)) ∧ (decode cX11_sent 39 = .ok (.aload_n 0, 1)) ∧ (decode cX11_sent 40 = .ok (.iload_n 1, 1)) ∧ (decode cX11_sent 41 = .ok (.aload_n 0, 1)) ∧ (decode cX11_sent 42 = .ok (.getfield 20, 3)) ∧ (decode cX11_sent 45 = .ok (.iload 4, 2)) ∧ (decode cX11_sent 47 = .ok (.iconst 1, 1)) := by decide +kernel
theorem dX11_sent_23 : decode cX11_sent 23 = .ok (.imul, 1) := gdX11_sent_23.1
theorem dX11_sent_24 : decode cX11_sent 24 = .ok (.iadd, 1) := gdX11_sent_23.2.1
theorem dX11_sent_25 : decode cX11_sent 25 = .ok (.istore 4, 2) := gdX11_sent_23.2.2.1
theorem dX11_sent_27 : decode cX11_sent 27 = .ok (.aload_n 0, 1) := gdX11_sent_23.2.2.2.1
theorem dX11_sent_28 : decode cX11_sent 28 = .ok (.getfield 20, 3) := gdX11_sent_23.2.2.2.2.1
theorem dX11_sent_31 : decode cX11_sent 31 = .ok (.iload 4, 2) := gdX11_sent_23.2.2.2.2.2.1
theorem dX11_sent_33 : decode cX11_sent 33 = .ok (.iconst 1, 1) := gdX11_sent_23.2.2.2.2.2.2.1
theorem dX11_sent_34 : decode cX11_sent 34 = .ok (.iadd, 1) := gdX11_sent_23.2.2.2.2.2.2.2.1
theorem dX11_sent_35 : decode cX11_sent 35 = .ok (.iaload, 1) := gdX11_sent_23.2.2.2.2.2.2.2.2.1
theorem dX11_sent_36 : decode cX11_sent 36 = .ok (.ifCond .lt 31, 3) := gdX11_sent_23.2.2.2.2.2.2.2.2.2.1
theorem dX11_sent_39 : decode cX11_sent 39 = .ok (.aload_n 0, 1) := gdX11_sent_23.2.2.2.2.2.2.2.2.2.2.1
theorem dX11_sent_40 : decode cX11_sent 40 = .ok (.iload_n 1, 1) := gdX11_sent_23.2.2.2.2.2.2.2.2.2.2.2.1
theorem dX11_sent_41 : decode cX11_sent 41 = .ok (.aload_n 0, 1) := gdX11_sent_23.2.2.2.2.2.2.2.2.2.2.2.2.1
theorem dX11_sent_42 : decode cX11_sent 42 = .ok (.getfield 20, 3) := gdX11_sent_23.2.2.2.2.2.2.2.2.2.2.2.2.2.1
theorem dX11_sent_45 : decode cX11_sent 45 = .ok (.iload 4, 2) := gdX11_sent_23.2.2.2.2.2.2.2.2.2.2.2.2.2.2.1
theorem dX11_sent_47 : decode cX11_sent 47 = .ok (.iconst 1, 1) := gdX11_sent_23.2.2.2.2.2.2.2.2.2.2.2.2.2.2.2
theorem gdX11_sent_48 : (decode cX11_sent 48 = .ok (.iadd, 1)) ∧ (decode cX11_sent 49 = .ok (.iaload, 1)) ∧ (decode cX11_sent 50 = .ok (.aload_n 0, 1)) ∧ (decode cX11_sent 51 = .ok (.getfield 20, 3)) ∧ (decode cX11_sent 54 = .ok (.iload 4, 2)) ∧ (decode cX11_sent 56 = .ok (.iconst 2, 1)) ∧ (decode cX11_sent 57 = .ok (.iadd, 1)) ∧ (decode cX11_sent 58 = .ok (.iaload, 1)) ∧ (decode cX11_sent 59 = .ok (.invokevirtual 329, 3)) ∧ (decode cX11_sent 62 = .ok (.lconst 1, 1)) ∧ (decode cX11_sent 63 = .ok (.lcmp, 1)) ∧ (decode cX11_sent 64 = .ok (.ifCond .ne 11, 3)) ∧ (decode cX11_sent 67 = .ok (.aload_n 0, 1)) ∧ (decode cX11_sent 68 = .ok (.getfield 20, 3)) ∧ (decode cX11_sent 71 = .ok (.iload 4, 2)) ∧ (decode cX11_sent 73 = .ok (.iaload, 1)) := by decide +kernel
theorem dX11_sent_48 : decode cX11_sent 48 = .ok (.iadd, 1) := gdX11_sent_48.1
theorem dX11_sent_49 : decode cX11_sent 49 = .ok (.iaload, 1) := gdX11_sent_48.2.1
theorem dX11_sent_50 : decode cX11_sent 50 = .ok (.aload_n 0, 1) := gdX11_sent_48.2.2.1
theorem dX11_sent_51 : decode cX11_sent 51 = .ok (.getfield 20, 3) := gdX11_sent_48.2.2.2.1
theorem dX11_sent_54 : decode cX11_sent 54 = .ok (.iload 4, 2) := gdX11_sent_48.2.2.2.2.1
theorem dX11_sent_56 : decode cX11_sent 56 = .ok (.iconst 2, 1) := gdX11_sent_48.2.2.2.2.2.1
theorem dX11_sent_57 : decode cX11_sent 57 = .ok (.iadd, 1) := gdX11_sent_48.2.2.2.2.2.2.1
theorem dX11_sent_58 : decode cX11_sent 58 = .ok (.iaload, 1) := gdX11_sent_48.2.2.2.2.2.2.2.1
theorem dX11_sent_59 : decode cX11_sent 59 = .ok (.invokevirtual 329, 3) := gdX11_sent_48.2.2.2.2.2.2.2.2.1
theorem dX11_sent_62 : decode cX11_sent 62 = .ok (.lconst 1, 1) := gdX11_sent_48.2.2.2.2.2.2.2.2.2.1
theorem dX11_sent_63 : decode cX11_sent 63 = .ok (.lcmp, 1) := gdX11_sent_48.2.2.2.2.2.2.2.2.2.2.1
theorem dX11_sent_64 : decode cX11_sent 64 = .ok (.ifCond .ne 11, 3) := gdX11_sent_48.2.2.2.2.2.2.2.2.2.2.2.1
theorem dX11_sent_67 : decode cX11_sent 67 = .ok (.aload_n 0, 1) := gdX11_sent_48.2.2.2.2.2.2.2.2.2.2.2.2.1
theorem dX11_sent_68 : decode cX11_sent 68 = .ok (.getfield 20, 3) := gdX11_sent_48.2.2.2.2.2.2.2.2.2.2.2.2.2.1
theorem dX11_sent_71 : decode cX11_sent 71 = .ok (.iload 4, 2) := gdX11_sent_48.2.2.2.2.2.2.2.2.2.2.2.2.2.2.1
theorem dX11_sent_73 : decode cX11_sent 73 = .ok (.iaload, 1) := gdX11_sent_48.2.2.2.2.2.2.2.2.2.2.2.2.2.2.2
theorem gdX11_sent_74 : (decode cX11_sent 74 = .ok (.ireturn, 1)) ∧ (decode cX11_sent 75 = .ok (.iinc 3 1, 3)) ∧ (decode cX11_sent 78 = .ok (.goto (-71), 3)) ∧ (decode cX11_sent 81 = .ok (.iconst (-1), 1)) ∧ (decode cX11_sent 82 = .ok (.ireturn, 1)) := by decide +kernel
theorem dX11_sent_74 : decode cX11_sent 74 = .ok (.ireturn, 1) := gdX11_sent_74.1
theorem dX11_sent_75 : decode cX11_sent 75 = .ok (.iinc 3 1, 3) := gdX11_sent_74.2.1
theorem dX11_sent_78 : decode cX11_sent 78 = .ok (.goto (-71), 3) := gdX11_sent_74.2.2.1
theorem dX11_sent_81 : decode cX11_sent 81 = .ok (.iconst (-1), 1) := gdX11_sent_74.2.2.2.1
theorem dX11_sent_82 : decode cX11_sent 82 = .ok (.ireturn, 1) := gdX11_sent_74.2.2.2.2
theorem gdX11_ageAll_0 : (decode cX11_ageAll 0 = .ok (.iconst 0, 1)) ∧ (decode cX11_ageAll 1 = .ok (.istore_n 1, 1)) ∧ (decode cX11_ageAll 2 = .ok (.iload_n 1, 1)) ∧ (decode cX11_ageAll 3 = .ok (.aload_n 0, 1)) ∧ (decode cX11_ageAll 4 = .ok (.getfield 45, 3)) ∧ (decode cX11_ageAll 7 = .ok (.iconst 2, 1)) ∧ (decode cX11_ageAll 8 = .ok (.iaload, 1)) ∧ (decode cX11_ageAll 9 = .ok (.if_icmp .ge 99, 3)) ∧ (decode cX11_ageAll 12 = .ok (.aload_n 0, 1)) ∧ (decode cX11_ageAll 13 = .ok (.iload_n 1, 1)) ∧ (decode cX11_ageAll 14 = .ok (.iconst 1, 1)) ∧ (decode cX11_ageAll 15 = .ok (.invokevirtual 296, 3)) ∧ (decode cX11_ageAll 18 = .ok (.istore_n 2, 1)) ∧ (decode cX11_ageAll 19 = .ok (.iload_n 2, 1)) ∧ (decode cX11_ageAll 20 = .ok (.ifCond .ge 25, 3)) ∧ (decode cX11_ageAll 23 = .ok (.aload_n 0, 1)) := by decide +kernel
theorem dX11_ageAll_0 : decode cX11_ageAll 0 = .ok (.iconst 0, 1) := gdX11_ageAll_0.1
theorem dX11_ageAll_1 : decode cX11_ageAll 1 = .ok (.istore_n 1, 1) := gdX11_ageAll_0.2.1
theorem dX11_ageAll_2 : decode cX11_ageAll 2 = .ok (.iload_n 1, 1) := gdX11_ageAll_0.2.2.1
theorem dX11_ageAll_3 : decode cX11_ageAll 3 = .ok (.aload_n 0, 1) := gdX11_ageAll_0.2.2.2.1
theorem dX11_ageAll_4 : decode cX11_ageAll 4 = .ok (.getfield 45, 3) := gdX11_ageAll_0.2.2.2.2.1
theorem dX11_ageAll_7 : decode cX11_ageAll 7 = .ok (.iconst 2, 1) := gdX11_ageAll_0.2.2.2.2.2.1
theorem dX11_ageAll_8 : decode cX11_ageAll 8 = .ok (.iaload, 1) := gdX11_ageAll_0.2.2.2.2.2.2.1
theorem dX11_ageAll_9 : decode cX11_ageAll 9 = .ok (.if_icmp .ge 99, 3) := gdX11_ageAll_0.2.2.2.2.2.2.2.1
theorem dX11_ageAll_12 : decode cX11_ageAll 12 = .ok (.aload_n 0, 1) := gdX11_ageAll_0.2.2.2.2.2.2.2.2.1
theorem dX11_ageAll_13 : decode cX11_ageAll 13 = .ok (.iload_n 1, 1) := gdX11_ageAll_0.2.2.2.2.2.2.2.2.2.1
theorem dX11_ageAll_14 : decode cX11_ageAll 14 = .ok (.iconst 1, 1) := gdX11_ageAll_0.2.2.2.2.2.2.2.2.2.2.1
theorem dX11_ageAll_15 : decode cX11_ageAll 15 = .ok (.invokevirtual 296, 3) := gdX11_ageAll_0.2.2.2.2.2.2.2.2.2.2.2.1
theorem dX11_ageAll_18 : decode cX11_ageAll 18 = .ok (.istore_n 2, 1) := gdX11_ageAll_0.2.2.2.2.2.2.2.2.2.2.2.2.1
theorem dX11_ageAll_19 : decode cX11_ageAll 19 = .ok (.iload_n 2, 1) := gdX11_ageAll_0.2.2.2.2.2.2.2.2.2.2.2.2.2.1
theorem dX11_ageAll_20 : decode cX11_ageAll 20 = .ok (.ifCond .ge 25, 3) := gdX11_ageAll_0.2.2.2.2.2.2.2.2.2.2.2.2.2.2.1
theorem dX11_ageAll_23 : decode cX11_ageAll 23 = .ok (.aload_n 0, 1) := gdX11_ageAll_0.2.2.2.2.2.2.2.2.2.2.2.2.2.2.2
theorem gdX11_ageAll_24 : (decode cX11_ageAll 24 = .ok (.getfield 48, 3)) ∧ (decode cX11_ageAll 27 = .ok (.iload_n 1, 1)) ∧ (decode cX11_ageAll 28 = .ok (.dup2, 1)) ∧ (decode cX11_ageAll 29 = .ok (.laload, 1)) ∧ (decode cX11_ageAll 30 = .ok (.aload_n 0, 1)) ∧ (decode cX11_ageAll 31 = .ok (.aload_n 0, 1)) ∧ (decode cX11_ageAll 32 = .ok (.iload_n 1, 1)) ∧ (decode cX11_ageAll 33 = .ok (.iconst 0, 1)) ∧ (decode cX11_ageAll 34 = .ok (.invokevirtual 296, 3)) ∧ (decode cX11_ageAll 37 = .ok (.invokevirtual 333, 3)) ∧ (decode cX11_ageAll 40 = .ok (.ladd, 1)) ∧ (decode cX11_ageAll 41 = .ok (.lastore, 1)) ∧ (decode cX11_ageAll 42 = .ok (.goto 60, 3)) ∧ (decode cX11_ageAll 45 = .ok (.aload_n 0, 1)) ∧ (decode cX11_ageAll 46 = .ok (.getfield 48, 3)) ∧ (decode cX11_ageAll 49 = .ok (.iload_n 1, 1)) := by decide +kernel
theorem dX11_ageAll_24 : decode cX11_ageAll 24 = .ok (.getfield 48, 3) := gdX11_ageAll_24.1
theorem dX11_ageAll_27 : decode cX11_ageAll 27 = .ok (.iload_n 1, 1) := gdX11_ageAll_24.2.1
theorem dX11_ageAll_28 : decode cX11_ageAll 28 = .ok (.dup2, 1) := gdX11_ageAll_24.2.2.1
theorem dX11_ageAll_29 : decode cX11_ageAll 29 = .ok (.laload, 1) := gdX11_ageAll_24.2.2.2.1
theorem dX11_ageAll_30 : decode cX11_ageAll 30 = .ok (.aload_n 0, 1) := gdX11_ageAll_24.2.2.2.2.1
theorem dX11_ageAll_31 : decode cX11_ageAll 31 = .ok (.aload_n 0, 1) := gdX11_ageAll_24.2.2.2.2.2.1
theorem dX11_ageAll_32 : decode cX11_ageAll 32 = .ok (.iload_n 1, 1) := gdX11_ageAll_24.2.2.2.2.2.2.1
theorem dX11_ageAll_33 : decode cX11_ageAll 33 = .ok (.iconst 0, 1) := gdX11_ageAll_24.2.2.2.2.2.2.2.1
theorem dX11_ageAll_34 : decode cX11_ageAll 34 = .ok (.invokevirtual 296, 3) := gdX11_ageAll_24.2.2.2.2.2.2.2.2.1
theorem dX11_ageAll_37 : decode cX11_ageAll 37 = .ok (.invokevirtual 333, 3) := gdX11_ageAll_24.2.2.2.2.2.2.2.2.2.1
theorem dX11_ageAll_40 : decode cX11_ageAll 40 = .ok (.ladd, 1) := gdX11_ageAll_24.2.2.2.2.2.2.2.2.2.2.1
theorem dX11_ageAll_41 : decode cX11_ageAll 41 = .ok (.lastore, 1) := gdX11_ageAll_24.2.2.2.2.2.2.2.2.2.2.2.1
theorem dX11_ageAll_42 : decode cX11_ageAll 42 = .ok (.goto 60, 3) := gdX11_ageAll_24.2.2.2.2.2.2.2.2.2.2.2.2.1
theorem dX11_ageAll_45 : decode cX11_ageAll 45 = .ok (.aload_n 0, 1) := gdX11_ageAll_24.2.2.2.2.2.2.2.2.2.2.2.2.2.1
theorem dX11_ageAll_46 : decode cX11_ageAll 46 = .ok (.getfield 48, 3) := gdX11_ageAll_24.2.2.2.2.2.2.2.2.2.2.2.2.2.2.1
theorem dX11_ageAll_49 : decode cX11_ageAll 49 = .ok (.iload_n 1, 1) := gdX11_ageAll_24.2.2.2.2.2.2.2.2.2.2.2.2.2.2.2
theorem gdX11_ageAll_50 : (decode cX11_ageAll 50 = .ok (.dup2, 1)) ∧ (decode cX11_ageAll 51 = .ok (.laload, 1)) ∧ (decode cX11_ageAll 52 = .ok (.aload_n 0, 1)) ∧ (decode cX11_ageAll 53 = .ok (.iload_n 2, 1)) ∧ (decode cX11_ageAll 54 = .ok (.invokevirtual 337, 3)) ∧ (decode cX11_ageAll 57 = .ok (.ladd, 1)) ∧ (decode cX11_ageAll 58 = .ok (.lastore, 1)) ∧ (decode cX11_ageAll 59 = .ok (.aload_n 0, 1)) ∧ (decode cX11_ageAll 60 = .ok (.getfield 45, 3)) ∧ (decode cX11_ageAll 63 = .ok (.bipush 90, 2)) ∧ (decode cX11_ageAll 65 = .ok (.iconst 4, 1)) ∧ (decode cX11_ageAll 66 = .ok (.iload_n 1, 1)) ∧ (decode cX11_ageAll 67 = .ok (.imul, 1)) ∧ (decode cX11_ageAll 68 = .ok (.iadd, 1)) ∧ (decode cX11_ageAll 69 = .ok (.iconst 2, 1)) ∧ (decode cX11_ageAll 70 = .ok (.iadd, 1)) := by decide +kernel
theorem dX11_ageAll_50 : decode cX11_ageAll 50 = .ok (.dup2, 1) := gdX11_ageAll_50.1
theorem dX11_ageAll_51 : decode cX11_ageAll 51 = .ok (.laload, 1) := gdX11_ageAll_50.2.1
theorem dX11_ageAll_52 : decode cX11_ageAll 52 = .ok (.aload_n 0, 1) := gdX11_ageAll_50.2.2.1
theorem dX11_ageAll_53 : decode cX11_ageAll 53 = .ok (.iload_n 2, 1) := gdX11_ageAll_50.2.2.2.1
theorem dX11_ageAll_54 : decode cX11_ageAll 54 = .ok (.invokevirtual 337, 3) := gdX11_ageAll_50.2.2.2.2.1
theorem dX11_ageAll_57 : decode cX11_ageAll 57 = .ok (.ladd, 1) := gdX11_ageAll_50.2.2.2.2.2.1
theorem dX11_ageAll_58 : decode cX11_ageAll 58 = .ok (.lastore, 1) := gdX11_ageAll_50.2.2.2.2.2.2.1
theorem dX11_ageAll_59 : decode cX11_ageAll 59 = .ok (.aload_n 0, 1) := gdX11_ageAll_50.2.2.2.2.2.2.2.1
theorem dX11_ageAll_60 : decode cX11_ageAll 60 = .ok (.getfield 45, 3) := gdX11_ageAll_50.2.2.2.2.2.2.2.2.1
theorem dX11_ageAll_63 : decode cX11_ageAll 63 = .ok (.bipush 90, 2) := gdX11_ageAll_50.2.2.2.2.2.2.2.2.2.1
theorem dX11_ageAll_65 : decode cX11_ageAll 65 = .ok (.iconst 4, 1) := gdX11_ageAll_50.2.2.2.2.2.2.2.2.2.2.1
theorem dX11_ageAll_66 : decode cX11_ageAll 66 = .ok (.iload_n 1, 1) := gdX11_ageAll_50.2.2.2.2.2.2.2.2.2.2.2.1
theorem dX11_ageAll_67 : decode cX11_ageAll 67 = .ok (.imul, 1) := gdX11_ageAll_50.2.2.2.2.2.2.2.2.2.2.2.2.1
theorem dX11_ageAll_68 : decode cX11_ageAll 68 = .ok (.iadd, 1) := gdX11_ageAll_50.2.2.2.2.2.2.2.2.2.2.2.2.2.1
theorem dX11_ageAll_69 : decode cX11_ageAll 69 = .ok (.iconst 2, 1) := gdX11_ageAll_50.2.2.2.2.2.2.2.2.2.2.2.2.2.2.1
theorem dX11_ageAll_70 : decode cX11_ageAll 70 = .ok (.iadd, 1) := gdX11_ageAll_50.2.2.2.2.2.2.2.2.2.2.2.2.2.2.2
theorem gdX11_ageAll_71 : (decode cX11_ageAll 71 = .ok (.dup2, 1)) ∧ (decode cX11_ageAll 72 = .ok (.iaload, 1)) ∧ (decode cX11_ageAll 73 = .ok (.iconst 1, 1)) ∧ (decode cX11_ageAll 74 = .ok (.iadd, 1)) ∧ (decode cX11_ageAll 75 = .ok (.iastore, 1)) ∧ (decode cX11_ageAll 76 = .ok (.aload_n 0, 1)) ∧ (decode cX11_ageAll 77 = .ok (.iload_n 1, 1)) ∧ (decode cX11_ageAll 78 = .ok (.iconst 2, 1)) ∧ (decode cX11_ageAll 79 = .ok (.invokevirtual 296, 3)) ∧ (decode cX11_ageAll 82 = .ok (.aload_n 0, 1)) ∧ (decode cX11_ageAll 83 = .ok (.iload_n 2, 1)) ∧ (decode cX11_ageAll 84 = .ok (.iconst 2, 1)) ∧ (decode cX11_ageAll 85 = .ok (.invokevirtual 283, 3)) ∧ (decode cX11_ageAll 88 = .ok (.if_icmp .ne 14, 3)) ∧ (decode cX11_ageAll 91 = .ok (.aload_n 0, 1)) ∧ (decode cX11_ageAll 92 = .ok (.iload_n 1, 1)) := by decide +kernel
theorem dX11_ageAll_71 : decode cX11_ageAll 71 = .ok (.dup2, 1) := gdX11_ageAll_71.1
theorem dX11_ageAll_72 : decode cX11_ageAll 72 = .ok (.iaload, 1) := gdX11_ageAll_71.2.1
theorem dX11_ageAll_73 : decode cX11_ageAll 73 = .ok (.iconst 1, 1) := gdX11_ageAll_71.2.2.1
theorem dX11_ageAll_74 : decode cX11_ageAll 74 = .ok (.iadd, 1) := gdX11_ageAll_71.2.2.2.1
theorem dX11_ageAll_75 : decode cX11_ageAll 75 = .ok (.iastore, 1) := gdX11_ageAll_71.2.2.2.2.1
theorem dX11_ageAll_76 : decode cX11_ageAll 76 = .ok (.aload_n 0, 1) := gdX11_ageAll_71.2.2.2.2.2.1
theorem dX11_ageAll_77 : decode cX11_ageAll 77 = .ok (.iload_n 1, 1) := gdX11_ageAll_71.2.2.2.2.2.2.1
theorem dX11_ageAll_78 : decode cX11_ageAll 78 = .ok (.iconst 2, 1) := gdX11_ageAll_71.2.2.2.2.2.2.2.1
theorem dX11_ageAll_79 : decode cX11_ageAll 79 = .ok (.invokevirtual 296, 3) := gdX11_ageAll_71.2.2.2.2.2.2.2.2.1
theorem dX11_ageAll_82 : decode cX11_ageAll 82 = .ok (.aload_n 0, 1) := gdX11_ageAll_71.2.2.2.2.2.2.2.2.2.1
theorem dX11_ageAll_83 : decode cX11_ageAll 83 = .ok (.iload_n 2, 1) := gdX11_ageAll_71.2.2.2.2.2.2.2.2.2.2.1
theorem dX11_ageAll_84 : decode cX11_ageAll 84 = .ok (.iconst 2, 1) := gdX11_ageAll_71.2.2.2.2.2.2.2.2.2.2.2.1
theorem dX11_ageAll_85 : decode cX11_ageAll 85 = .ok (.invokevirtual 283, 3) := gdX11_ageAll_71.2.2.2.2.2.2.2.2.2.2.2.2.1
theorem dX11_ageAll_88 : decode cX11_ageAll 88 = .ok (.if_icmp .ne 14, 3) := gdX11_ageAll_71.2.2.2.2.2.2.2.2.2.2.2.2.2.1
theorem dX11_ageAll_91 : decode cX11_ageAll 91 = .ok (.aload_n 0, 1) := gdX11_ageAll_71.2.2.2.2.2.2.2.2.2.2.2.2.2.2.1
theorem dX11_ageAll_92 : decode cX11_ageAll 92 = .ok (.iload_n 1, 1) := gdX11_ageAll_71.2.2.2.2.2.2.2.2.2.2.2.2.2.2.2
theorem gdX11_ageAll_93 : (decode cX11_ageAll 93 = .ok (.aload_n 0, 1)) ∧ (decode cX11_ageAll 94 = .ok (.iload_n 1, 1)) ∧ (decode cX11_ageAll 95 = .ok (.iconst 3, 1)) ∧ (decode cX11_ageAll 96 = .ok (.invokevirtual 296, 3)) ∧ (decode cX11_ageAll 99 = .ok (.invokevirtual 260, 3)) ∧ (decode cX11_ageAll 102 = .ok (.iinc 1 1, 3)) ∧ (decode cX11_ageAll 105 = .ok (.goto (-103), 3)) ∧ (decode cX11_ageAll 108 = .ok (.aload_n 0, 1)) ∧ (decode cX11_ageAll 109 = .ok (.getfield 45, 3)) ∧ (decode cX11_ageAll 112 = .ok (.iconst 3, 1)) ∧ (decode cX11_ageAll 113 = .ok (.dup2, 1)) ∧ (decode cX11_ageAll 114 = .ok (.iaload, 1)) ∧ (decode cX11_ageAll 115 = .ok (.iconst 1, 1)) ∧ (decode cX11_ageAll 116 = .ok (.iadd, 1)) ∧ (decode cX11_ageAll 117 = .ok (.iastore, 1)) ∧ (decode cX11_ageAll 118 = .ok (.return_, 1)) := by decide +kernel
theorem dX11_ageAll_93 : decode cX11_ageAll 93 = .ok (.aload_n 0, 1) := gdX11_ageAll_93.1
theorem dX11_ageAll_94 : decode cX11_ageAll 94 = .ok (.iload_n 1, 1) := gdX11_ageAll_93.2.1
theorem dX11_ageAll_95 : decode cX11_ageAll 95 = .ok (.iconst 3, 1) := gdX11_ageAll_93.2.2.1
theorem dX11_ageAll_96 : decode cX11_ageAll 96 = .ok (.invokevirtual 296, 3) := gdX11_ageAll_93.2.2.2.1
theorem dX11_ageAll_99 : decode cX11_ageAll 99 = .ok (.invokevirtual 260, 3) := gdX11_ageAll_93.2.2.2.2.1
theorem dX11_ageAll_102 : decode cX11_ageAll 102 = .ok (.iinc 1 1, 3) := gdX11_ageAll_93.2.2.2.2.2.1
theorem dX11_ageAll_105 : decode cX11_ageAll 105 = .ok (.goto (-103), 3) := gdX11_ageAll_93.2.2.2.2.2.2.1
theorem dX11_ageAll_108 : decode cX11_ageAll 108 = .ok (.aload_n 0, 1) := gdX11_ageAll_93.2.2.2.2.2.2.2.1
theorem dX11_ageAll_109 : decode cX11_ageAll 109 = .ok (.getfield 45, 3) := gdX11_ageAll_93.2.2.2.2.2.2.2.2.1
theorem dX11_ageAll_112 : decode cX11_ageAll 112 = .ok (.iconst 3, 1) := gdX11_ageAll_93.2.2.2.2.2.2.2.2.2.1
theorem dX11_ageAll_113 : decode cX11_ageAll 113 = .ok (.dup2, 1) := gdX11_ageAll_93.2.2.2.2.2.2.2.2.2.2.1
theorem dX11_ageAll_114 : decode cX11_ageAll 114 = .ok (.iaload, 1) := gdX11_ageAll_93.2.2.2.2.2.2.2.2.2.2.2.1
theorem dX11_ageAll_115 : decode cX11_ageAll 115 = .ok (.iconst 1, 1) := gdX11_ageAll_93.2.2.2.2.2.2.2.2.2.2.2.2.1
theorem dX11_ageAll_116 : decode cX11_ageAll 116 = .ok (.iadd, 1) := gdX11_ageAll_93.2.2.2.2.2.2.2.2.2.2.2.2.2.1
theorem dX11_ageAll_117 : decode cX11_ageAll 117 = .ok (.iastore, 1) := gdX11_ageAll_93.2.2.2.2.2.2.2.2.2.2.2.2.2.2.1
theorem dX11_ageAll_118 : decode cX11_ageAll 118 = .ok (.return_, 1) := gdX11_ageAll_93.2.2.2.2.2.2.2.2.2.2.2.2.2.2.2
theorem gdX11_hour_0 : (decode cX11_hour 0 = .ok (.iconst 0, 1)) ∧ (decode cX11_hour 1 = .ok (.istore_n 2, 1)) ∧ (decode cX11_hour 2 = .ok (.iload_n 2, 1)) ∧ (decode cX11_hour 3 = .ok (.aload_n 0, 1)) ∧ (decode cX11_hour 4 = .ok (.getfield 45, 3)) ∧ (decode cX11_hour 7 = .ok (.iconst 2, 1)) ∧ (decode cX11_hour 8 = .ok (.iaload, 1)) ∧ (decode cX11_hour 9 = .ok (.if_icmp .ge 70, 3)) ∧ (decode cX11_hour 12 = .ok (.iload_n 1, 1)) ∧ (decode cX11_hour 13 = .ok (.ifCond .lt 66, 3)) ∧ (decode cX11_hour 16 = .ok (.aload_n 0, 1)) ∧ (decode cX11_hour 17 = .ok (.iload_n 2, 1)) ∧ (decode cX11_hour 18 = .ok (.iconst 0, 1)) ∧ (decode cX11_hour 19 = .ok (.invokevirtual 296, 3)) ∧ (decode cX11_hour 22 = .ok (.ifCond .ge 6, 3)) ∧ (decode cX11_hour 25 = .ok (.goto 48, 3)) := by decide +kernel
theorem dX11_hour_0 : decode cX11_hour 0 = .ok (.iconst 0, 1) := gdX11_hour_0.1
theorem dX11_hour_1 : decode cX11_hour 1 = .ok (.istore_n 2, 1) := gdX11_hour_0.2.1
theorem dX11_hour_2 : decode cX11_hour 2 = .ok (.iload_n 2, 1) := gdX11_hour_0.2.2.1
theorem dX11_hour_3 : decode cX11_hour 3 = .ok (.aload_n 0, 1) := gdX11_hour_0.2.2.2.1
theorem dX11_hour_4 : decode cX11_hour 4 = .ok (.getfield 45, 3) := gdX11_hour_0.2.2.2.2.1
theorem dX11_hour_7 : decode cX11_hour 7 = .ok (.iconst 2, 1) := gdX11_hour_0.2.2.2.2.2.1
theorem dX11_hour_8 : decode cX11_hour 8 = .ok (.iaload, 1) := gdX11_hour_0.2.2.2.2.2.2.1
theorem dX11_hour_9 : decode cX11_hour 9 = .ok (.if_icmp .ge 70, 3) := gdX11_hour_0.2.2.2.2.2.2.2.1
theorem dX11_hour_12 : decode cX11_hour 12 = .ok (.iload_n 1, 1) := gdX11_hour_0.2.2.2.2.2.2.2.2.1
theorem dX11_hour_13 : decode cX11_hour 13 = .ok (.ifCond .lt 66, 3) := gdX11_hour_0.2.2.2.2.2.2.2.2.2.1
theorem dX11_hour_16 : decode cX11_hour 16 = .ok (.aload_n 0, 1) := gdX11_hour_0.2.2.2.2.2.2.2.2.2.2.1
theorem dX11_hour_17 : decode cX11_hour 17 = .ok (.iload_n 2, 1) := gdX11_hour_0.2.2.2.2.2.2.2.2.2.2.2.1
theorem dX11_hour_18 : decode cX11_hour 18 = .ok (.iconst 0, 1) := gdX11_hour_0.2.2.2.2.2.2.2.2.2.2.2.2.1
theorem dX11_hour_19 : decode cX11_hour 19 = .ok (.invokevirtual 296, 3) := gdX11_hour_0.2.2.2.2.2.2.2.2.2.2.2.2.2.1
theorem dX11_hour_22 : decode cX11_hour 22 = .ok (.ifCond .ge 6, 3) := gdX11_hour_0.2.2.2.2.2.2.2.2.2.2.2.2.2.2.1
theorem dX11_hour_25 : decode cX11_hour 25 = .ok (.goto 48, 3) := gdX11_hour_0.2.2.2.2.2.2.2.2.2.2.2.2.2.2.2
theorem gdX11_hour_28 : (decode cX11_hour 28 = .ok (.aload_n 0, 1)) ∧ (decode cX11_hour 29 = .ok (.iload_n 1, 1)) ∧ (decode cX11_hour 30 = .ok (.iload_n 2, 1)) ∧ (decode cX11_hour 31 = .ok (.invokevirtual 340, 3)) ∧ (decode cX11_hour 34 = .ok (.istore_n 3, 1)) ∧ (decode cX11_hour 35 = .ok (.aload_n 0, 1)) ∧ (decode cX11_hour 36 = .ok (.iload_n 3, 1)) ∧ (decode cX11_hour 37 = .ok (.invokevirtual 299, 3)) ∧ (decode cX11_hour 40 = .ok (.ifCond .eq 17, 3)) ∧ (decode cX11_hour 43 = .ok (.aload_n 0, 1)) ∧ (decode cX11_hour 44 = .ok (.aload_n 0, 1)) ∧ (decode cX11_hour 45 = .ok (.iload_n 2, 1)) ∧ (decode cX11_hour 46 = .ok (.iconst 0, 1)) ∧ (decode cX11_hour 47 = .ok (.invokevirtual 296, 3)) ∧ (decode cX11_hour 50 = .ok (.iload_n 3, 1)) ∧ (decode cX11_hour 51 = .ok (.invokevirtual 343, 3)) := by decide +kernel
theorem dX11_hour_28 : decode cX11_hour 28 = .ok (.aload_n 0, 1) := gdX11_hour_28.1
theorem dX11_hour_29 : decode cX11_hour 29 = .ok (.iload_n 1, 1) := gdX11_hour_28.2.1
theorem dX11_hour_30 : decode cX11_hour 30 = .ok (.iload_n 2, 1) := gdX11_hour_28.2.2.1
theorem dX11_hour_31 : decode cX11_hour 31 = .ok (.invokevirtual 340, 3) := gdX11_hour_28.2.2.2.1
theorem dX11_hour_34 : decode cX11_hour 34 = .ok (.istore_n 3, 1) := gdX11_hour_28.2.2.2.2.1
theorem dX11_hour_35 : decode cX11_hour 35 = .ok (.aload_n 0, 1) := gdX11_hour_28.2.2.2.2.2.1
theorem dX11_hour_36 : decode cX11_hour 36 = .ok (.iload_n 3, 1) := gdX11_hour_28.2.2.2.2.2.2.1
theorem dX11_hour_37 : decode cX11_hour 37 = .ok (.invokevirtual 299, 3) := gdX11_hour_28.2.2.2.2.2.2.2.1
theorem dX11_hour_40 : decode cX11_hour 40 = .ok (.ifCond .eq 17, 3) := gdX11_hour_28.2.2.2.2.2.2.2.2.1
theorem dX11_hour_43 : decode cX11_hour 43 = .ok (.aload_n 0, 1) := gdX11_hour_28.2.2.2.2.2.2.2.2.2.1
theorem dX11_hour_44 : decode cX11_hour 44 = .ok (.aload_n 0, 1) := gdX11_hour_28.2.2.2.2.2.2.2.2.2.2.1
theorem dX11_hour_45 : decode cX11_hour 45 = .ok (.iload_n 2, 1) := gdX11_hour_28.2.2.2.2.2.2.2.2.2.2.2.1
theorem dX11_hour_46 : decode cX11_hour 46 = .ok (.iconst 0, 1) := gdX11_hour_28.2.2.2.2.2.2.2.2.2.2.2.2.1
theorem dX11_hour_47 : decode cX11_hour 47 = .ok (.invokevirtual 296, 3) := gdX11_hour_28.2.2.2.2.2.2.2.2.2.2.2.2.2.1
theorem dX11_hour_50 : decode cX11_hour 50 = .ok (.iload_n 3, 1) := gdX11_hour_28.2.2.2.2.2.2.2.2.2.2.2.2.2.2.1
theorem dX11_hour_51 : decode cX11_hour 51 = .ok (.invokevirtual 343, 3) := gdX11_hour_28.2.2.2.2.2.2.2.2.2.2.2.2.2.2.2
theorem gdX11_hour_54 : (decode cX11_hour 54 = .ok (.goto 5, 3)) ∧ (decode cX11_hour 57 = .ok (.bipush (-2), 2)) ∧ (decode cX11_hour 59 = .ok (.istore 4, 2)) ∧ (decode cX11_hour 61 = .ok (.iload 4, 2)) ∧ (decode cX11_hour 63 = .ok (.ifCond .lt 10, 3)) ∧ (decode cX11_hour 66 = .ok (.aload_n 0, 1)) ∧ (decode cX11_hour 67 = .ok (.iload_n 2, 1)) ∧ (decode cX11_hour 68 = .ok (.iload 4, 2)) ∧ (decode cX11_hour 70 = .ok (.invokevirtual 323, 3)) ∧ (decode cX11_hour 73 = .ok (.iinc 2 1, 3)) ∧ (decode cX11_hour 76 = .ok (.goto (-74), 3)) ∧ (decode cX11_hour 79 = .ok (.aload_n 0, 1)) ∧ (decode cX11_hour 80 = .ok (.invokevirtual 346, 3)) ∧ (decode cX11_hour 83 = .ok (.return_, 1)) := by decide +kernel
theorem dX11_hour_54 : decode cX11_hour 54 = .ok (.goto 5, 3) := gdX11_hour_54.1
theorem dX11_hour_57 : decode cX11_hour 57 = .ok (.bipush (-2), 2) := gdX11_hour_54.2.1
theorem dX11_hour_59 : decode cX11_hour 59 = .ok (.istore 4, 2) := gdX11_hour_54.2.2.1
theorem dX11_hour_61 : decode cX11_hour 61 = .ok (.iload 4, 2) := gdX11_hour_54.2.2.2.1
theorem dX11_hour_63 : decode cX11_hour 63 = .ok (.ifCond .lt 10, 3) := gdX11_hour_54.2.2.2.2.1
theorem dX11_hour_66 : decode cX11_hour 66 = .ok (.aload_n 0, 1) := gdX11_hour_54.2.2.2.2.2.1
theorem dX11_hour_67 : decode cX11_hour 67 = .ok (.iload_n 2, 1) := gdX11_hour_54.2.2.2.2.2.2.1
theorem dX11_hour_68 : decode cX11_hour 68 = .ok (.iload 4, 2) := gdX11_hour_54.2.2.2.2.2.2.2.1
theorem dX11_hour_70 : decode cX11_hour 70 = .ok (.invokevirtual 323, 3) := gdX11_hour_54.2.2.2.2.2.2.2.2.1
theorem dX11_hour_73 : decode cX11_hour 73 = .ok (.iinc 2 1, 3) := gdX11_hour_54.2.2.2.2.2.2.2.2.2.1
theorem dX11_hour_76 : decode cX11_hour 76 = .ok (.goto (-74), 3) := gdX11_hour_54.2.2.2.2.2.2.2.2.2.2.1
theorem dX11_hour_79 : decode cX11_hour 79 = .ok (.aload_n 0, 1) := gdX11_hour_54.2.2.2.2.2.2.2.2.2.2.2.1
theorem dX11_hour_80 : decode cX11_hour 80 = .ok (.invokevirtual 346, 3) := gdX11_hour_54.2.2.2.2.2.2.2.2.2.2.2.2.1
theorem dX11_hour_83 : decode cX11_hour 83 = .ok (.return_, 1) := gdX11_hour_54.2.2.2.2.2.2.2.2.2.2.2.2.2
theorem gdX11_tick_0 : (decode cX11_tick 0 = .ok (.iload_n 1, 1)) ∧ (decode cX11_tick 1 = .ok (.iconst (-1), 1)) ∧ (decode cX11_tick 2 = .ok (.if_icmp .eq 11, 3)) ∧ (decode cX11_tick 5 = .ok (.aload_n 0, 1)) ∧ (decode cX11_tick 6 = .ok (.iload_n 1, 1)) ∧ (decode cX11_tick 7 = .ok (.invokevirtual 349, 3)) ∧ (decode cX11_tick 10 = .ok (.ifCond .eq 29, 3)) ∧ (decode cX11_tick 13 = .ok (.iload_n 2, 1)) ∧ (decode cX11_tick 14 = .ok (.i2l, 1)) ∧ (decode cX11_tick 15 = .ok (.lconst 1, 1)) ∧ (decode cX11_tick 16 = .ok (.ldc2_w 352, 3)) ∧ (decode cX11_tick 19 = .ok (.invokestatic 131, 3)) ∧ (decode cX11_tick 22 = .ok (.ifCond .eq 17, 3)) ∧ (decode cX11_tick 25 = .ok (.aload_n 0, 1)) ∧ (decode cX11_tick 26 = .ok (.getfield 45, 3)) ∧ (decode cX11_tick 29 = .ok (.iconst 3, 1)) := by decide +kernel
theorem dX11_tick_0 : decode cX11_tick 0 = .ok (.iload_n 1, 1) := gdX11_tick_0.1
theorem dX11_tick_1 : decode cX11_tick 1 = .ok (.iconst (-1), 1) := gdX11_tick_0.2.1
theorem dX11_tick_2 : decode cX11_tick 2 = .ok (.if_icmp .eq 11, 3) := gdX11_tick_0.2.2.1
theorem dX11_tick_5 : decode cX11_tick 5 = .ok (.aload_n 0, 1) := gdX11_tick_0.2.2.2.1
theorem dX11_tick_6 : decode cX11_tick 6 = .ok (.iload_n 1, 1) := gdX11_tick_0.2.2.2.2.1
theorem dX11_tick_7 : decode cX11_tick 7 = .ok (.invokevirtual 349, 3) := gdX11_tick_0.2.2.2.2.2.1
theorem dX11_tick_10 : decode cX11_tick 10 = .ok (.ifCond .eq 29, 3) := gdX11_tick_0.2.2.2.2.2.2.1
theorem dX11_tick_13 : decode cX11_tick 13 = .ok (.iload_n 2, 1) := gdX11_tick_0.2.2.2.2.2.2.2.1
theorem dX11_tick_14 : decode cX11_tick 14 = .ok (.i2l, 1) := gdX11_tick_0.2.2.2.2.2.2.2.2.1
theorem dX11_tick_15 : decode cX11_tick 15 = .ok (.lconst 1, 1) := gdX11_tick_0.2.2.2.2.2.2.2.2.2.1
theorem dX11_tick_16 : decode cX11_tick 16 = .ok (.ldc2_w 352, 3) := gdX11_tick_0.2.2.2.2.2.2.2.2.2.2.1
theorem dX11_tick_19 : decode cX11_tick 19 = .ok (.invokestatic 131, 3) := gdX11_tick_0.2.2.2.2.2.2.2.2.2.2.2.1
theorem dX11_tick_22 : decode cX11_tick 22 = .ok (.ifCond .eq 17, 3) := gdX11_tick_0.2.2.2.2.2.2.2.2.2.2.2.2.1
theorem dX11_tick_25 : decode cX11_tick 25 = .ok (.aload_n 0, 1) := gdX11_tick_0.2.2.2.2.2.2.2.2.2.2.2.2.2.1
theorem dX11_tick_26 : decode cX11_tick 26 = .ok (.getfield 45, 3) := gdX11_tick_0.2.2.2.2.2.2.2.2.2.2.2.2.2.2.1
theorem dX11_tick_29 : decode cX11_tick 29 = .ok (.iconst 3, 1) := gdX11_tick_0.2.2.2.2.2.2.2.2.2.2.2.2.2.2.2
theorem gdX11_tick_30 : (decode cX11_tick 30 = .ok (.iaload, 1)) ∧ (decode cX11_tick 31 = .ok (.iload_n 2, 1)) ∧ (decode cX11_tick 32 = .ok (.iadd, 1)) ∧ (decode cX11_tick 33 = .ok (.sipush 9999, 3)) ∧ (decode cX11_tick 36 = .ok (.if_icmp .le 5, 3)) ∧ (decode cX11_tick 39 = .ok (.iconst (-1), 1)) ∧ (decode cX11_tick 40 = .ok (.ireturn, 1)) ∧ (decode cX11_tick 41 = .ok (.iconst 0, 1)) ∧ (decode cX11_tick 42 = .ok (.istore_n 3, 1)) ∧ (decode cX11_tick 43 = .ok (.iload_n 3, 1)) ∧ (decode cX11_tick 44 = .ok (.iload_n 2, 1)) ∧ (decode cX11_tick 45 = .ok (.if_icmp .ge 14, 3)) ∧ (decode cX11_tick 48 = .ok (.aload_n 0, 1)) ∧ (decode cX11_tick 49 = .ok (.iload_n 1, 1)) ∧ (decode cX11_tick 50 = .ok (.invokevirtual 354, 3)) ∧ (decode cX11_tick 53 = .ok (.iinc 3 1, 3)) := by decide +kernel
theorem dX11_tick_30 : decode cX11_tick 30 = .ok (.iaload, 1) := gdX11_tick_30.1
theorem dX11_tick_31 : decode cX11_tick 31 = .ok (.iload_n 2, 1) := gdX11_tick_30.2.1
theorem dX11_tick_32 : decode cX11_tick 32 = .ok (.iadd, 1) := gdX11_tick_30.2.2.1
theorem dX11_tick_33 : decode cX11_tick 33 = .ok (.sipush 9999, 3) := gdX11_tick_30.2.2.2.1
theorem dX11_tick_36 : decode cX11_tick 36 = .ok (.if_icmp .le 5, 3) := gdX11_tick_30.2.2.2.2.1
theorem dX11_tick_39 : decode cX11_tick 39 = .ok (.iconst (-1), 1) := gdX11_tick_30.2.2.2.2.2.1
theorem dX11_tick_40 : decode cX11_tick 40 = .ok (.ireturn, 1) := gdX11_tick_30.2.2.2.2.2.2.1
theorem dX11_tick_41 : decode cX11_tick 41 = .ok (.iconst 0, 1) := gdX11_tick_30.2.2.2.2.2.2.2.1
theorem dX11_tick_42 : decode cX11_tick 42 = .ok (.istore_n 3, 1) := gdX11_tick_30.2.2.2.2.2.2.2.2.1
theorem dX11_tick_43 : decode cX11_tick 43 = .ok (.iload_n 3, 1) := gdX11_tick_30.2.2.2.2.2.2.2.2.2.1
theorem dX11_tick_44 : decode cX11_tick 44 = .ok (.iload_n 2, 1) := gdX11_tick_30.2.2.2.2.2.2.2.2.2.2.1
theorem dX11_tick_45 : decode cX11_tick 45 = .ok (.if_icmp .ge 14, 3) := gdX11_tick_30.2.2.2.2.2.2.2.2.2.2.2.1
theorem dX11_tick_48 : decode cX11_tick 48 = .ok (.aload_n 0, 1) := gdX11_tick_30.2.2.2.2.2.2.2.2.2.2.2.2.1
theorem dX11_tick_49 : decode cX11_tick 49 = .ok (.iload_n 1, 1) := gdX11_tick_30.2.2.2.2.2.2.2.2.2.2.2.2.2.1
theorem dX11_tick_50 : decode cX11_tick 50 = .ok (.invokevirtual 354, 3) := gdX11_tick_30.2.2.2.2.2.2.2.2.2.2.2.2.2.2.1
theorem dX11_tick_53 : decode cX11_tick 53 = .ok (.iinc 3 1, 3) := gdX11_tick_30.2.2.2.2.2.2.2.2.2.2.2.2.2.2.2
theorem gdX11_tick_56 : (decode cX11_tick 56 = .ok (.goto (-13), 3)) ∧ (decode cX11_tick 59 = .ok (.aload_n 0, 1)) ∧ (decode cX11_tick 60 = .ok (.getfield 45, 3)) ∧ (decode cX11_tick 63 = .ok (.iconst 3, 1)) ∧ (decode cX11_tick 64 = .ok (.iaload, 1)) ∧ (decode cX11_tick 65 = .ok (.ireturn, 1)) := by decide +kernel
theorem dX11_tick_56 : decode cX11_tick 56 = .ok (.goto (-13), 3) := gdX11_tick_56.1
theorem dX11_tick_59 : decode cX11_tick 59 = .ok (.aload_n 0, 1) := gdX11_tick_56.2.1
theorem dX11_tick_60 : decode cX11_tick 60 = .ok (.getfield 45, 3) := gdX11_tick_56.2.2.1
theorem dX11_tick_63 : decode cX11_tick 63 = .ok (.iconst 3, 1) := gdX11_tick_56.2.2.2.1
theorem dX11_tick_64 : decode cX11_tick 64 = .ok (.iaload, 1) := gdX11_tick_56.2.2.2.2.1
theorem dX11_tick_65 : decode cX11_tick 65 = .ok (.ireturn, 1) := gdX11_tick_56.2.2.2.2.2
theorem gdX11_keeps_0 : (decode cX11_keeps 0 = .ok (.iconst 0, 1)) ∧ (decode cX11_keeps 1 = .ok (.istore_n 1, 1)) ∧ (decode cX11_keeps 2 = .ok (.iload_n 1, 1)) ∧ (decode cX11_keeps 3 = .ok (.sipush 158, 3)) ∧ (decode cX11_keeps 6 = .ok (.if_icmp .ge 21, 3)) ∧ (decode cX11_keeps 9 = .ok (.aload_n 0, 1)) ∧ (decode cX11_keeps 10 = .ok (.getfield 51, 3)) ∧ (decode cX11_keeps 13 = .ok (.iload_n 1, 1)) ∧ (decode cX11_keeps 14 = .ok (.aload_n 0, 1)) ∧ (decode cX11_keeps 15 = .ok (.getfield 45, 3)) ∧ (decode cX11_keeps 18 = .ok (.iload_n 1, 1)) ∧ (decode cX11_keeps 19 = .ok (.iaload, 1)) ∧ (decode cX11_keeps 20 = .ok (.iastore, 1)) ∧ (decode cX11_keeps 21 = .ok (.iinc 1 1, 3)) ∧ (decode cX11_keeps 24 = .ok (.goto (-22), 3)) ∧ (decode cX11_keeps 27 = .ok (.iconst 0, 1)) := by decide +kernel
theorem dX11_keeps_0 : decode cX11_keeps 0 = .ok (.iconst 0, 1) := gdX11_keeps_0.1
theorem dX11_keeps_1 : decode cX11_keeps 1 = .ok (.istore_n 1, 1) := gdX11_keeps_0.2.1
theorem dX11_keeps_2 : decode cX11_keeps 2 = .ok (.iload_n 1, 1) := gdX11_keeps_0.2.2.1
theorem dX11_keeps_3 : decode cX11_keeps 3 = .ok (.sipush 158, 3) := gdX11_keeps_0.2.2.2.1
theorem dX11_keeps_6 : decode cX11_keeps 6 = .ok (.if_icmp .ge 21, 3) := gdX11_keeps_0.2.2.2.2.1
theorem dX11_keeps_9 : decode cX11_keeps 9 = .ok (.aload_n 0, 1) := gdX11_keeps_0.2.2.2.2.2.1
theorem dX11_keeps_10 : decode cX11_keeps 10 = .ok (.getfield 51, 3) := gdX11_keeps_0.2.2.2.2.2.2.1
theorem dX11_keeps_13 : decode cX11_keeps 13 = .ok (.iload_n 1, 1) := gdX11_keeps_0.2.2.2.2.2.2.2.1
theorem dX11_keeps_14 : decode cX11_keeps 14 = .ok (.aload_n 0, 1) := gdX11_keeps_0.2.2.2.2.2.2.2.2.1
theorem dX11_keeps_15 : decode cX11_keeps 15 = .ok (.getfield 45, 3) := gdX11_keeps_0.2.2.2.2.2.2.2.2.2.1
theorem dX11_keeps_18 : decode cX11_keeps 18 = .ok (.iload_n 1, 1) := gdX11_keeps_0.2.2.2.2.2.2.2.2.2.2.1
theorem dX11_keeps_19 : decode cX11_keeps 19 = .ok (.iaload, 1) := gdX11_keeps_0.2.2.2.2.2.2.2.2.2.2.2.1
theorem dX11_keeps_20 : decode cX11_keeps 20 = .ok (.iastore, 1) := gdX11_keeps_0.2.2.2.2.2.2.2.2.2.2.2.2.1
theorem dX11_keeps_21 : decode cX11_keeps 21 = .ok (.iinc 1 1, 3) := gdX11_keeps_0.2.2.2.2.2.2.2.2.2.2.2.2.2.1
theorem dX11_keeps_24 : decode cX11_keeps 24 = .ok (.goto (-22), 3) := gdX11_keeps_0.2.2.2.2.2.2.2.2.2.2.2.2.2.2.1
theorem dX11_keeps_27 : decode cX11_keeps 27 = .ok (.iconst 0, 1) := gdX11_keeps_0.2.2.2.2.2.2.2.2.2.2.2.2.2.2.2
theorem gdX11_keeps_28 : (decode cX11_keeps 28 = .ok (.istore_n 1, 1)) ∧ (decode cX11_keeps 29 = .ok (.iload_n 1, 1)) ∧ (decode cX11_keeps 30 = .ok (.bipush 8, 2)) ∧ (decode cX11_keeps 32 = .ok (.if_icmp .ge 21, 3)) ∧ (decode cX11_keeps 35 = .ok (.aload_n 0, 1)) ∧ (decode cX11_keeps 36 = .ok (.getfield 54, 3)) ∧ (decode cX11_keeps 39 = .ok (.iload_n 1, 1)) ∧ (decode cX11_keeps 40 = .ok (.aload_n 0, 1)) ∧ (decode cX11_keeps 41 = .ok (.getfield 48, 3)) ∧ (decode cX11_keeps 44 = .ok (.iload_n 1, 1)) ∧ (decode cX11_keeps 45 = .ok (.laload, 1)) ∧ (decode cX11_keeps 46 = .ok (.lastore, 1)) ∧ (decode cX11_keeps 47 = .ok (.iinc 1 1, 3)) ∧ (decode cX11_keeps 50 = .ok (.goto (-21), 3)) ∧ (decode cX11_keeps 53 = .ok (.return_, 1)) := by decide +kernel
theorem dX11_keeps_28 : decode cX11_keeps 28 = .ok (.istore_n 1, 1) := gdX11_keeps_28.1
theorem dX11_keeps_29 : decode cX11_keeps 29 = .ok (.iload_n 1, 1) := gdX11_keeps_28.2.1
theorem dX11_keeps_30 : decode cX11_keeps 30 = .ok (.bipush 8, 2) := gdX11_keeps_28.2.2.1
theorem dX11_keeps_32 : decode cX11_keeps 32 = .ok (.if_icmp .ge 21, 3) := gdX11_keeps_28.2.2.2.1
theorem dX11_keeps_35 : decode cX11_keeps 35 = .ok (.aload_n 0, 1) := gdX11_keeps_28.2.2.2.2.1
theorem dX11_keeps_36 : decode cX11_keeps 36 = .ok (.getfield 54, 3) := gdX11_keeps_28.2.2.2.2.2.1
theorem dX11_keeps_39 : decode cX11_keeps 39 = .ok (.iload_n 1, 1) := gdX11_keeps_28.2.2.2.2.2.2.1
theorem dX11_keeps_40 : decode cX11_keeps 40 = .ok (.aload_n 0, 1) := gdX11_keeps_28.2.2.2.2.2.2.2.1
theorem dX11_keeps_41 : decode cX11_keeps 41 = .ok (.getfield 48, 3) := gdX11_keeps_28.2.2.2.2.2.2.2.2.1
theorem dX11_keeps_44 : decode cX11_keeps 44 = .ok (.iload_n 1, 1) := gdX11_keeps_28.2.2.2.2.2.2.2.2.2.1
theorem dX11_keeps_45 : decode cX11_keeps 45 = .ok (.laload, 1) := gdX11_keeps_28.2.2.2.2.2.2.2.2.2.2.1
theorem dX11_keeps_46 : decode cX11_keeps 46 = .ok (.lastore, 1) := gdX11_keeps_28.2.2.2.2.2.2.2.2.2.2.2.1
theorem dX11_keeps_47 : decode cX11_keeps 47 = .ok (.iinc 1 1, 3) := gdX11_keeps_28.2.2.2.2.2.2.2.2.2.2.2.2.1
theorem dX11_keeps_50 : decode cX11_keeps 50 = .ok (.goto (-21), 3) := gdX11_keeps_28.2.2.2.2.2.2.2.2.2.2.2.2.2.1
theorem dX11_keeps_53 : decode cX11_keeps 53 = .ok (.return_, 1) := gdX11_keeps_28.2.2.2.2.2.2.2.2.2.2.2.2.2.2
theorem gdX11_putsBack_0 : (decode cX11_putsBack 0 = .ok (.iconst 0, 1)) ∧ (decode cX11_putsBack 1 = .ok (.istore_n 1, 1)) ∧ (decode cX11_putsBack 2 = .ok (.iload_n 1, 1)) ∧ (decode cX11_putsBack 3 = .ok (.sipush 158, 3)) ∧ (decode cX11_putsBack 6 = .ok (.if_icmp .ge 21, 3)) ∧ (decode cX11_putsBack 9 = .ok (.aload_n 0, 1)) ∧ (decode cX11_putsBack 10 = .ok (.getfield 45, 3)) ∧ (decode cX11_putsBack 13 = .ok (.iload_n 1, 1)) ∧ (decode cX11_putsBack 14 = .ok (.aload_n 0, 1)) ∧ (decode cX11_putsBack 15 = .ok (.getfield 51, 3)) ∧ (decode cX11_putsBack 18 = .ok (.iload_n 1, 1)) ∧ (decode cX11_putsBack 19 = .ok (.iaload, 1)) ∧ (decode cX11_putsBack 20 = .ok (.iastore, 1)) ∧ (decode cX11_putsBack 21 = .ok (.iinc 1 1, 3)) ∧ (decode cX11_putsBack 24 = .ok (.goto (-22), 3)) ∧ (decode cX11_putsBack 27 = .ok (.iconst 0, 1)) := by decide +kernel
theorem dX11_putsBack_0 : decode cX11_putsBack 0 = .ok (.iconst 0, 1) := gdX11_putsBack_0.1
theorem dX11_putsBack_1 : decode cX11_putsBack 1 = .ok (.istore_n 1, 1) := gdX11_putsBack_0.2.1
theorem dX11_putsBack_2 : decode cX11_putsBack 2 = .ok (.iload_n 1, 1) := gdX11_putsBack_0.2.2.1
theorem dX11_putsBack_3 : decode cX11_putsBack 3 = .ok (.sipush 158, 3) := gdX11_putsBack_0.2.2.2.1
theorem dX11_putsBack_6 : decode cX11_putsBack 6 = .ok (.if_icmp .ge 21, 3) := gdX11_putsBack_0.2.2.2.2.1
theorem dX11_putsBack_9 : decode cX11_putsBack 9 = .ok (.aload_n 0, 1) := gdX11_putsBack_0.2.2.2.2.2.1
theorem dX11_putsBack_10 : decode cX11_putsBack 10 = .ok (.getfield 45, 3) := gdX11_putsBack_0.2.2.2.2.2.2.1
theorem dX11_putsBack_13 : decode cX11_putsBack 13 = .ok (.iload_n 1, 1) := gdX11_putsBack_0.2.2.2.2.2.2.2.1
theorem dX11_putsBack_14 : decode cX11_putsBack 14 = .ok (.aload_n 0, 1) := gdX11_putsBack_0.2.2.2.2.2.2.2.2.1
theorem dX11_putsBack_15 : decode cX11_putsBack 15 = .ok (.getfield 51, 3) := gdX11_putsBack_0.2.2.2.2.2.2.2.2.2.1
theorem dX11_putsBack_18 : decode cX11_putsBack 18 = .ok (.iload_n 1, 1) := gdX11_putsBack_0.2.2.2.2.2.2.2.2.2.2.1
theorem dX11_putsBack_19 : decode cX11_putsBack 19 = .ok (.iaload, 1) := gdX11_putsBack_0.2.2.2.2.2.2.2.2.2.2.2.1
theorem dX11_putsBack_20 : decode cX11_putsBack 20 = .ok (.iastore, 1) := gdX11_putsBack_0.2.2.2.2.2.2.2.2.2.2.2.2.1
theorem dX11_putsBack_21 : decode cX11_putsBack 21 = .ok (.iinc 1 1, 3) := gdX11_putsBack_0.2.2.2.2.2.2.2.2.2.2.2.2.2.1
theorem dX11_putsBack_24 : decode cX11_putsBack 24 = .ok (.goto (-22), 3) := gdX11_putsBack_0.2.2.2.2.2.2.2.2.2.2.2.2.2.2.1
theorem dX11_putsBack_27 : decode cX11_putsBack 27 = .ok (.iconst 0, 1) := gdX11_putsBack_0.2.2.2.2.2.2.2.2.2.2.2.2.2.2.2
theorem gdX11_putsBack_28 : (decode cX11_putsBack 28 = .ok (.istore_n 1, 1)) ∧ (decode cX11_putsBack 29 = .ok (.iload_n 1, 1)) ∧ (decode cX11_putsBack 30 = .ok (.bipush 8, 2)) ∧ (decode cX11_putsBack 32 = .ok (.if_icmp .ge 21, 3)) ∧ (decode cX11_putsBack 35 = .ok (.aload_n 0, 1)) ∧ (decode cX11_putsBack 36 = .ok (.getfield 48, 3)) ∧ (decode cX11_putsBack 39 = .ok (.iload_n 1, 1)) ∧ (decode cX11_putsBack 40 = .ok (.aload_n 0, 1)) ∧ (decode cX11_putsBack 41 = .ok (.getfield 54, 3)) ∧ (decode cX11_putsBack 44 = .ok (.iload_n 1, 1)) ∧ (decode cX11_putsBack 45 = .ok (.laload, 1)) ∧ (decode cX11_putsBack 46 = .ok (.lastore, 1)) ∧ (decode cX11_putsBack 47 = .ok (.iinc 1 1, 3)) ∧ (decode cX11_putsBack 50 = .ok (.goto (-21), 3)) ∧ (decode cX11_putsBack 53 = .ok (.return_, 1)) := by decide +kernel
theorem dX11_putsBack_28 : decode cX11_putsBack 28 = .ok (.istore_n 1, 1) := gdX11_putsBack_28.1
theorem dX11_putsBack_29 : decode cX11_putsBack 29 = .ok (.iload_n 1, 1) := gdX11_putsBack_28.2.1
theorem dX11_putsBack_30 : decode cX11_putsBack 30 = .ok (.bipush 8, 2) := gdX11_putsBack_28.2.2.1
theorem dX11_putsBack_32 : decode cX11_putsBack 32 = .ok (.if_icmp .ge 21, 3) := gdX11_putsBack_28.2.2.2.1
theorem dX11_putsBack_35 : decode cX11_putsBack 35 = .ok (.aload_n 0, 1) := gdX11_putsBack_28.2.2.2.2.1
theorem dX11_putsBack_36 : decode cX11_putsBack 36 = .ok (.getfield 48, 3) := gdX11_putsBack_28.2.2.2.2.2.1
theorem dX11_putsBack_39 : decode cX11_putsBack 39 = .ok (.iload_n 1, 1) := gdX11_putsBack_28.2.2.2.2.2.2.1
theorem dX11_putsBack_40 : decode cX11_putsBack 40 = .ok (.aload_n 0, 1) := gdX11_putsBack_28.2.2.2.2.2.2.2.1
theorem dX11_putsBack_41 : decode cX11_putsBack 41 = .ok (.getfield 54, 3) := gdX11_putsBack_28.2.2.2.2.2.2.2.2.1
theorem dX11_putsBack_44 : decode cX11_putsBack 44 = .ok (.iload_n 1, 1) := gdX11_putsBack_28.2.2.2.2.2.2.2.2.2.1
theorem dX11_putsBack_45 : decode cX11_putsBack 45 = .ok (.laload, 1) := gdX11_putsBack_28.2.2.2.2.2.2.2.2.2.2.1
theorem dX11_putsBack_46 : decode cX11_putsBack 46 = .ok (.lastore, 1) := gdX11_putsBack_28.2.2.2.2.2.2.2.2.2.2.2.1
theorem dX11_putsBack_47 : decode cX11_putsBack 47 = .ok (.iinc 1 1, 3) := gdX11_putsBack_28.2.2.2.2.2.2.2.2.2.2.2.2.1
theorem dX11_putsBack_50 : decode cX11_putsBack 50 = .ok (.goto (-21), 3) := gdX11_putsBack_28.2.2.2.2.2.2.2.2.2.2.2.2.2.1
theorem dX11_putsBack_53 : decode cX11_putsBack 53 = .ok (.return_, 1) := gdX11_putsBack_28.2.2.2.2.2.2.2.2.2.2.2.2.2.2
theorem gdX11_ahead_0 : (decode cX11_ahead 0 = .ok (.aload_n 0, 1)) ∧ (decode cX11_ahead 1 = .ok (.iload_n 1, 1)) ∧ (decode cX11_ahead 2 = .ok (.invokevirtual 349, 3)) ∧ (decode cX11_ahead 5 = .ok (.ifCond .eq 36, 3)) ∧ (decode cX11_ahead 8 = .ok (.iload_n 2, 1)) ∧ (decode cX11_ahead 9 = .ok (.i2l, 1)) ∧ (decode cX11_ahead 10 = .ok (.lconst 0, 1)) ∧ (decode cX11_ahead 11 = .ok (.ldc2_w 352, 3)) ∧ (decode cX11_ahead 14 = .ok (.invokestatic 131, 3)) ∧ (decode cX11_ahead 17 = .ok (.ifCond .eq 24, 3)) ∧ (decode cX11_ahead 20 = .ok (.iload 4, 2)) ∧ (decode cX11_ahead 22 = .ok (.i2l, 1)) ∧ (decode cX11_ahead 23 = .ok (.lconst 0, 1)) ∧ (decode cX11_ahead 24 = .ok (.ldc2_w 319, 3)) ∧ (decode cX11_ahead 27 = .ok (.invokestatic 131, 3)) ∧ (decode cX11_ahead 30 = .ok (.ifCond .eq 11, 3)) := by decide +kernel
theorem dX11_ahead_0 : decode cX11_ahead 0 = .ok (.aload_n 0, 1) := gdX11_ahead_0.1
theorem dX11_ahead_1 : decode cX11_ahead 1 = .ok (.iload_n 1, 1) := gdX11_ahead_0.2.1
theorem dX11_ahead_2 : decode cX11_ahead 2 = .ok (.invokevirtual 349, 3) := gdX11_ahead_0.2.2.1
theorem dX11_ahead_5 : decode cX11_ahead 5 = .ok (.ifCond .eq 36, 3) := gdX11_ahead_0.2.2.2.1
theorem dX11_ahead_8 : decode cX11_ahead 8 = .ok (.iload_n 2, 1) := gdX11_ahead_0.2.2.2.2.1
theorem dX11_ahead_9 : decode cX11_ahead 9 = .ok (.i2l, 1) := gdX11_ahead_0.2.2.2.2.2.1
theorem dX11_ahead_10 : decode cX11_ahead 10 = .ok (.lconst 0, 1) := gdX11_ahead_0.2.2.2.2.2.2.1
theorem dX11_ahead_11 : decode cX11_ahead 11 = .ok (.ldc2_w 352, 3) := gdX11_ahead_0.2.2.2.2.2.2.2.1
theorem dX11_ahead_14 : decode cX11_ahead 14 = .ok (.invokestatic 131, 3) := gdX11_ahead_0.2.2.2.2.2.2.2.2.1
theorem dX11_ahead_17 : decode cX11_ahead 17 = .ok (.ifCond .eq 24, 3) := gdX11_ahead_0.2.2.2.2.2.2.2.2.2.1
theorem dX11_ahead_20 : decode cX11_ahead 20 = .ok (.iload 4, 2) := gdX11_ahead_0.2.2.2.2.2.2.2.2.2.2.1
theorem dX11_ahead_22 : decode cX11_ahead 22 = .ok (.i2l, 1) := gdX11_ahead_0.2.2.2.2.2.2.2.2.2.2.2.1
theorem dX11_ahead_23 : decode cX11_ahead 23 = .ok (.lconst 0, 1) := gdX11_ahead_0.2.2.2.2.2.2.2.2.2.2.2.2.1
theorem dX11_ahead_24 : decode cX11_ahead 24 = .ok (.ldc2_w 319, 3) := gdX11_ahead_0.2.2.2.2.2.2.2.2.2.2.2.2.2.1
theorem dX11_ahead_27 : decode cX11_ahead 27 = .ok (.invokestatic 131, 3) := gdX11_ahead_0.2.2.2.2.2.2.2.2.2.2.2.2.2.2.1
theorem dX11_ahead_30 : decode cX11_ahead 30 = .ok (.ifCond .eq 11, 3) := gdX11_ahead_0.2.2.2.2.2.2.2.2.2.2.2.2.2.2.2
theorem gdX11_ahead_33 : (decode cX11_ahead 33 = .ok (.aload_n 0, 1)) ∧ (decode cX11_ahead 34 = .ok (.iload_n 3, 1)) ∧ (decode cX11_ahead 35 = .ok (.invokevirtual 316, 3)) ∧ (decode cX11_ahead 38 = .ok (.ifCond .ne 7, 3)) ∧ (decode cX11_ahead 41 = .ok (.ldc2_w 321, 3)) ∧ (decode cX11_ahead 44 = .ok (.lreturn, 1)) ∧ (decode cX11_ahead 45 = .ok (.aload_n 0, 1)) ∧ (decode cX11_ahead 46 = .ok (.invokevirtual 357, 3)) ∧ (decode cX11_ahead 49 = .ok (.iconst 0, 1)) ∧ (decode cX11_ahead 50 = .ok (.istore 5, 2)) ∧ (decode cX11_ahead 52 = .ok (.iload 5, 2)) ∧ (decode cX11_ahead 54 = .ok (.iload_n 2, 1)) ∧ (decode cX11_ahead 55 = .ok (.if_icmp .ge 14, 3)) ∧ (decode cX11_ahead 58 = .ok (.aload_n 0, 1)) ∧ (decode cX11_ahead 59 = .ok (.iload_n 1, 1)) ∧ (decode cX11_ahead 60 = .ok (.invokevirtual 354, 3)) := by decide +kernel
theorem dX11_ahead_33 : decode cX11_ahead 33 = .ok (.aload_n 0, 1) := gdX11_ahead_33.1
theorem dX11_ahead_34 : decode cX11_ahead 34 = .ok (.iload_n 3, 1) := gdX11_ahead_33.2.1
theorem dX11_ahead_35 : decode cX11_ahead 35 = .ok (.invokevirtual 316, 3) := gdX11_ahead_33.2.2.1
theorem dX11_ahead_38 : decode cX11_ahead 38 = .ok (.ifCond .ne 7, 3) := gdX11_ahead_33.2.2.2.1
theorem dX11_ahead_41 : decode cX11_ahead 41 = .ok (.ldc2_w 321, 3) := gdX11_ahead_33.2.2.2.2.1
theorem dX11_ahead_44 : decode cX11_ahead 44 = .ok (.lreturn, 1) := gdX11_ahead_33.2.2.2.2.2.1
theorem dX11_ahead_45 : decode cX11_ahead 45 = .ok (.aload_n 0, 1) := gdX11_ahead_33.2.2.2.2.2.2.1
theorem dX11_ahead_46 : decode cX11_ahead 46 = .ok (.invokevirtual 357, 3) := gdX11_ahead_33.2.2.2.2.2.2.2.1
theorem dX11_ahead_49 : decode cX11_ahead 49 = .ok (.iconst 0, 1) := gdX11_ahead_33.2.2.2.2.2.2.2.2.1
theorem dX11_ahead_50 : decode cX11_ahead 50 = .ok (.istore 5, 2) := gdX11_ahead_33.2.2.2.2.2.2.2.2.2.1
theorem dX11_ahead_52 : decode cX11_ahead 52 = .ok (.iload 5, 2) := gdX11_ahead_33.2.2.2.2.2.2.2.2.2.2.1
theorem dX11_ahead_54 : decode cX11_ahead 54 = .ok (.iload_n 2, 1) := gdX11_ahead_33.2.2.2.2.2.2.2.2.2.2.2.1
theorem dX11_ahead_55 : decode cX11_ahead 55 = .ok (.if_icmp .ge 14, 3) := gdX11_ahead_33.2.2.2.2.2.2.2.2.2.2.2.2.1
theorem dX11_ahead_58 : decode cX11_ahead 58 = .ok (.aload_n 0, 1) := gdX11_ahead_33.2.2.2.2.2.2.2.2.2.2.2.2.2.1
theorem dX11_ahead_59 : decode cX11_ahead 59 = .ok (.iload_n 1, 1) := gdX11_ahead_33.2.2.2.2.2.2.2.2.2.2.2.2.2.2.1
theorem dX11_ahead_60 : decode cX11_ahead 60 = .ok (.invokevirtual 354, 3) := gdX11_ahead_33.2.2.2.2.2.2.2.2.2.2.2.2.2.2.2
theorem gdX11_ahead_63 : (decode cX11_ahead 63 = .ok (.iinc 5 1, 3)) ∧ (decode cX11_ahead 66 = .ok (.goto (-14), 3)) ∧ (decode cX11_ahead 69 = .ok (.lconst 0, 1)) ∧ (decode cX11_ahead 70 = .ok (.lstore 5, 2)) ∧ (decode cX11_ahead 72 = .ok (.iload 4, 2)) ∧ (decode cX11_ahead 74 = .ok (.iconst 3, 1)) ∧ (decode cX11_ahead 75 = .ok (.if_icmp .ne 61, 3)) ∧ (decode cX11_ahead 78 = .ok (.iconst 0, 1)) ∧ (decode cX11_ahead 79 = .ok (.istore 7, 2)) ∧ (decode cX11_ahead 81 = .ok (.iload 7, 2)) ∧ (decode cX11_ahead 83 = .ok (.aload_n 0, 1)) ∧ (decode cX11_ahead 84 = .ok (.getfield 45, 3)) ∧ (decode cX11_ahead 87 = .ok (.iconst 2, 1)) ∧ (decode cX11_ahead 88 = .ok (.iaload, 1)) ∧ (decode cX11_ahead 89 = .ok (.if_icmp .ge 44, 3)) ∧ (decode cX11_ahead 92 = .ok (.lload 5, 2)) := by decide +kernel
theorem dX11_ahead_63 : decode cX11_ahead 63 = .ok (.iinc 5 1, 3) := gdX11_ahead_63.1
theorem dX11_ahead_66 : decode cX11_ahead 66 = .ok (.goto (-14), 3) := gdX11_ahead_63.2.1
theorem dX11_ahead_69 : decode cX11_ahead 69 = .ok (.lconst 0, 1) := gdX11_ahead_63.2.2.1
theorem dX11_ahead_70 : decode cX11_ahead 70 = .ok (.lstore 5, 2) := gdX11_ahead_63.2.2.2.1
theorem dX11_ahead_72 : decode cX11_ahead 72 = .ok (.iload 4, 2) := gdX11_ahead_63.2.2.2.2.1
theorem dX11_ahead_74 : decode cX11_ahead 74 = .ok (.iconst 3, 1) := gdX11_ahead_63.2.2.2.2.2.1
theorem dX11_ahead_75 : decode cX11_ahead 75 = .ok (.if_icmp .ne 61, 3) := gdX11_ahead_63.2.2.2.2.2.2.1
theorem dX11_ahead_78 : decode cX11_ahead 78 = .ok (.iconst 0, 1) := gdX11_ahead_63.2.2.2.2.2.2.2.1
theorem dX11_ahead_79 : decode cX11_ahead 79 = .ok (.istore 7, 2) := gdX11_ahead_63.2.2.2.2.2.2.2.2.1
theorem dX11_ahead_81 : decode cX11_ahead 81 = .ok (.iload 7, 2) := gdX11_ahead_63.2.2.2.2.2.2.2.2.2.1
theorem dX11_ahead_83 : decode cX11_ahead 83 = .ok (.aload_n 0, 1) := gdX11_ahead_63.2.2.2.2.2.2.2.2.2.2.1
theorem dX11_ahead_84 : decode cX11_ahead 84 = .ok (.getfield 45, 3) := gdX11_ahead_63.2.2.2.2.2.2.2.2.2.2.2.1
theorem dX11_ahead_87 : decode cX11_ahead 87 = .ok (.iconst 2, 1) := gdX11_ahead_63.2.2.2.2.2.2.2.2.2.2.2.2.1
theorem dX11_ahead_88 : decode cX11_ahead 88 = .ok (.iaload, 1) := gdX11_ahead_63.2.2.2.2.2.2.2.2.2.2.2.2.2.1
theorem dX11_ahead_89 : decode cX11_ahead 89 = .ok (.if_icmp .ge 44, 3) := gdX11_ahead_63.2.2.2.2.2.2.2.2.2.2.2.2.2.2.1
theorem dX11_ahead_92 : decode cX11_ahead 92 = .ok (.lload 5, 2) := gdX11_ahead_63.2.2.2.2.2.2.2.2.2.2.2.2.2.2.2
theorem gdX11_ahead_94 : (decode cX11_ahead 94 = .ok (.aload_n 0, 1)) ∧ (decode cX11_ahead 95 = .ok (.iload 7, 2)) ∧ (decode cX11_ahead 97 = .ok (.iconst 0, 1)) ∧ (decode cX11_ahead 98 = .ok (.invokevirtual 296, 3)) ∧ (decode cX11_ahead 101 = .ok (.ifCond .lt 22, 3)) ∧ (decode cX11_ahead 104 = .ok (.aload_n 0, 1)) ∧ (decode cX11_ahead 105 = .ok (.aload_n 0, 1)) ∧ (decode cX11_ahead 106 = .ok (.iload 7, 2)) ∧ (decode cX11_ahead 108 = .ok (.iconst 0, 1)) ∧ (decode cX11_ahead 109 = .ok (.invokevirtual 296, 3)) ∧ (decode cX11_ahead 112 = .ok (.invokevirtual 304, 3)) ∧ (decode cX11_ahead 115 = .ok (.iconst 1, 1)) ∧ (decode cX11_ahead 116 = .ok (.if_icmp .le 7, 3)) ∧ (decode cX11_ahead 119 = .ok (.lconst 1, 1)) ∧ (decode cX11_ahead 120 = .ok (.goto 4, 3)) ∧ (decode cX11_ahead 123 = .ok (.lconst 0, 1)) := by decide +kernel
theorem dX11_ahead_94 : decode cX11_ahead 94 = .ok (.aload_n 0, 1) := gdX11_ahead_94.1
theorem dX11_ahead_95 : decode cX11_ahead 95 = .ok (.iload 7, 2) := gdX11_ahead_94.2.1
theorem dX11_ahead_97 : decode cX11_ahead 97 = .ok (.iconst 0, 1) := gdX11_ahead_94.2.2.1
theorem dX11_ahead_98 : decode cX11_ahead 98 = .ok (.invokevirtual 296, 3) := gdX11_ahead_94.2.2.2.1
theorem dX11_ahead_101 : decode cX11_ahead 101 = .ok (.ifCond .lt 22, 3) := gdX11_ahead_94.2.2.2.2.1
theorem dX11_ahead_104 : decode cX11_ahead 104 = .ok (.aload_n 0, 1) := gdX11_ahead_94.2.2.2.2.2.1
theorem dX11_ahead_105 : decode cX11_ahead 105 = .ok (.aload_n 0, 1) := gdX11_ahead_94.2.2.2.2.2.2.1
theorem dX11_ahead_106 : decode cX11_ahead 106 = .ok (.iload 7, 2) := gdX11_ahead_94.2.2.2.2.2.2.2.1
theorem dX11_ahead_108 : decode cX11_ahead 108 = .ok (.iconst 0, 1) := gdX11_ahead_94.2.2.2.2.2.2.2.2.1
theorem dX11_ahead_109 : decode cX11_ahead 109 = .ok (.invokevirtual 296, 3) := gdX11_ahead_94.2.2.2.2.2.2.2.2.2.1
theorem dX11_ahead_112 : decode cX11_ahead 112 = .ok (.invokevirtual 304, 3) := gdX11_ahead_94.2.2.2.2.2.2.2.2.2.2.1
theorem dX11_ahead_115 : decode cX11_ahead 115 = .ok (.iconst 1, 1) := gdX11_ahead_94.2.2.2.2.2.2.2.2.2.2.2.1
theorem dX11_ahead_116 : decode cX11_ahead 116 = .ok (.if_icmp .le 7, 3) := gdX11_ahead_94.2.2.2.2.2.2.2.2.2.2.2.2.1
theorem dX11_ahead_119 : decode cX11_ahead 119 = .ok (.lconst 1, 1) := gdX11_ahead_94.2.2.2.2.2.2.2.2.2.2.2.2.2.1
theorem dX11_ahead_120 : decode cX11_ahead 120 = .ok (.goto 4, 3) := gdX11_ahead_94.2.2.2.2.2.2.2.2.2.2.2.2.2.2.1
theorem dX11_ahead_123 : decode cX11_ahead 123 = .ok (.lconst 0, 1) := gdX11_ahead_94.2.2.2.2.2.2.2.2.2.2.2.2.2.2.2
theorem gdX11_ahead_124 : (decode cX11_ahead 124 = .ok (.ladd, 1)) ∧ (decode cX11_ahead 125 = .ok (.lstore 5, 2)) ∧ (decode cX11_ahead 127 = .ok (.iinc 7 1, 3)) ∧ (decode cX11_ahead 130 = .ok (.goto (-49), 3)) ∧ (decode cX11_ahead 133 = .ok (.goto 51, 3)) ∧ (decode cX11_ahead 136 = .ok (.iload 4, 2)) ∧ (decode cX11_ahead 138 = .ok (.ifCond .ne 28, 3)) ∧ (decode cX11_ahead 141 = .ok (.aload_n 0, 1)) ∧ (decode cX11_ahead 142 = .ok (.iload_n 3, 1)) ∧ (decode cX11_ahead 143 = .ok (.iconst 0, 1)) ∧ (decode cX11_ahead 144 = .ok (.invokevirtual 296, 3)) ∧ (decode cX11_ahead 147 = .ok (.ifCond .ge 9, 3)) ∧ (decode cX11_ahead 150 = .ok (.ldc2_w 360, 3)) ∧ (decode cX11_ahead 153 = .ok (.goto 29, 3)) ∧ (decode cX11_ahead 156 = .ok (.aload_n 0, 1)) ∧ (decode cX11_ahead 157 = .ok (.iload_n 3, 1)) := by decide +kernel
theorem dX11_ahead_124 : decode cX11_ahead 124 = .ok (.ladd, 1) := gdX11_ahead_124.1
theorem dX11_ahead_125 : decode cX11_ahead 125 = .ok (.lstore 5, 2) := gdX11_ahead_124.2.1
theorem dX11_ahead_127 : decode cX11_ahead 127 = .ok (.iinc 7 1, 3) := gdX11_ahead_124.2.2.1
theorem dX11_ahead_130 : decode cX11_ahead 130 = .ok (.goto (-49), 3) := gdX11_ahead_124.2.2.2.1
theorem dX11_ahead_133 : decode cX11_ahead 133 = .ok (.goto 51, 3) := gdX11_ahead_124.2.2.2.2.1
theorem dX11_ahead_136 : decode cX11_ahead 136 = .ok (.iload 4, 2) := gdX11_ahead_124.2.2.2.2.2.1
theorem dX11_ahead_138 : decode cX11_ahead 138 = .ok (.ifCond .ne 28, 3) := gdX11_ahead_124.2.2.2.2.2.2.1
theorem dX11_ahead_141 : decode cX11_ahead 141 = .ok (.aload_n 0, 1) := gdX11_ahead_124.2.2.2.2.2.2.2.1
theorem dX11_ahead_142 : decode cX11_ahead 142 = .ok (.iload_n 3, 1) := gdX11_ahead_124.2.2.2.2.2.2.2.2.1
theorem dX11_ahead_143 : decode cX11_ahead 143 = .ok (.iconst 0, 1) := gdX11_ahead_124.2.2.2.2.2.2.2.2.2.1
theorem dX11_ahead_144 : decode cX11_ahead 144 = .ok (.invokevirtual 296, 3) := gdX11_ahead_124.2.2.2.2.2.2.2.2.2.2.1
theorem dX11_ahead_147 : decode cX11_ahead 147 = .ok (.ifCond .ge 9, 3) := gdX11_ahead_124.2.2.2.2.2.2.2.2.2.2.2.1
theorem dX11_ahead_150 : decode cX11_ahead 150 = .ok (.ldc2_w 360, 3) := gdX11_ahead_124.2.2.2.2.2.2.2.2.2.2.2.2.1
theorem dX11_ahead_153 : decode cX11_ahead 153 = .ok (.goto 29, 3) := gdX11_ahead_124.2.2.2.2.2.2.2.2.2.2.2.2.2.1
theorem dX11_ahead_156 : decode cX11_ahead 156 = .ok (.aload_n 0, 1) := gdX11_ahead_124.2.2.2.2.2.2.2.2.2.2.2.2.2.2.1
theorem dX11_ahead_157 : decode cX11_ahead 157 = .ok (.iload_n 3, 1) := gdX11_ahead_124.2.2.2.2.2.2.2.2.2.2.2.2.2.2.2
theorem gdX11_ahead_158 : (decode cX11_ahead 158 = .ok (.iconst 0, 1)) ∧ (decode cX11_ahead 159 = .ok (.invokevirtual 296, 3)) ∧ (decode cX11_ahead 162 = .ok (.i2l, 1)) ∧ (decode cX11_ahead 163 = .ok (.goto 19, 3)) ∧ (decode cX11_ahead 166 = .ok (.aload_n 0, 1)) ∧ (decode cX11_ahead 167 = .ok (.getfield 48, 3)) ∧ (decode cX11_ahead 170 = .ok (.iload_n 3, 1)) ∧ (decode cX11_ahead 171 = .ok (.laload, 1)) ∧ (decode cX11_ahead 172 = .ok (.ldc2_w 281, 3)) ∧ (decode cX11_ahead 175 = .ok (.iload 4, 2)) ∧ (decode cX11_ahead 177 = .ok (.iconst 1, 1)) ∧ (decode cX11_ahead 178 = .ok (.isub, 1)) ∧ (decode cX11_ahead 179 = .ok (.invokestatic 307, 3)) ∧ (decode cX11_ahead 182 = .ok (.lstore 5, 2)) ∧ (decode cX11_ahead 184 = .ok (.aload_n 0, 1)) ∧ (decode cX11_ahead 185 = .ok (.invokevirtual 362, 3)) := by decide +kernel
theorem dX11_ahead_158 : decode cX11_ahead 158 = .ok (.iconst 0, 1) := gdX11_ahead_158.1
theorem dX11_ahead_159 : decode cX11_ahead 159 = .ok (.invokevirtual 296, 3) := gdX11_ahead_158.2.1
theorem dX11_ahead_162 : decode cX11_ahead 162 = .ok (.i2l, 1) := gdX11_ahead_158.2.2.1
theorem dX11_ahead_163 : decode cX11_ahead 163 = .ok (.goto 19, 3) := gdX11_ahead_158.2.2.2.1
theorem dX11_ahead_166 : decode cX11_ahead 166 = .ok (.aload_n 0, 1) := gdX11_ahead_158.2.2.2.2.1
theorem dX11_ahead_167 : decode cX11_ahead 167 = .ok (.getfield 48, 3) := gdX11_ahead_158.2.2.2.2.2.1
theorem dX11_ahead_170 : decode cX11_ahead 170 = .ok (.iload_n 3, 1) := gdX11_ahead_158.2.2.2.2.2.2.1
theorem dX11_ahead_171 : decode cX11_ahead 171 = .ok (.laload, 1) := gdX11_ahead_158.2.2.2.2.2.2.2.1
theorem dX11_ahead_172 : decode cX11_ahead 172 = .ok (.ldc2_w 281, 3) := gdX11_ahead_158.2.2.2.2.2.2.2.2.1
theorem dX11_ahead_175 : decode cX11_ahead 175 = .ok (.iload 4, 2) := gdX11_ahead_158.2.2.2.2.2.2.2.2.2.1
theorem dX11_ahead_177 : decode cX11_ahead 177 = .ok (.iconst 1, 1) := gdX11_ahead_158.2.2.2.2.2.2.2.2.2.2.1
theorem dX11_ahead_178 : decode cX11_ahead 178 = .ok (.isub, 1) := gdX11_ahead_158.2.2.2.2.2.2.2.2.2.2.2.1
theorem dX11_ahead_179 : decode cX11_ahead 179 = .ok (.invokestatic 307, 3) := gdX11_ahead_158.2.2.2.2.2.2.2.2.2.2.2.2.1
theorem dX11_ahead_182 : decode cX11_ahead 182 = .ok (.lstore 5, 2) := gdX11_ahead_158.2.2.2.2.2.2.2.2.2.2.2.2.2.1
theorem dX11_ahead_184 : decode cX11_ahead 184 = .ok (.aload_n 0, 1) := gdX11_ahead_158.2.2.2.2.2.2.2.2.2.2.2.2.2.2.1
theorem dX11_ahead_185 : decode cX11_ahead 185 = .ok (.invokevirtual 362, 3) := gdX11_ahead_158.2.2.2.2.2.2.2.2.2.2.2.2.2.2.2
theorem gdX11_ahead_188 : (decode cX11_ahead 188 = .ok (.lload 5, 2)) ∧ (decode cX11_ahead 190 = .ok (.lreturn, 1)) := by decide +kernel
theorem dX11_ahead_188 : decode cX11_ahead 188 = .ok (.lload 5, 2) := gdX11_ahead_188.1
theorem dX11_ahead_190 : decode cX11_ahead 190 = .ok (.lreturn, 1) := gdX11_ahead_188.2
theorem gdX11_far_0 : (decode cX11_far 0 = .ok (.aload_n 0, 1)) ∧ (decode cX11_far 1 = .ok (.iload_n 1, 1)) ∧ (decode cX11_far 2 = .ok (.invokevirtual 299, 3)) ∧ (decode cX11_far 5 = .ok (.ifCond .eq 11, 3)) ∧ (decode cX11_far 8 = .ok (.aload_n 0, 1)) ∧ (decode cX11_far 9 = .ok (.iload_n 2, 1)) ∧ (decode cX11_far 10 = .ok (.invokevirtual 299, 3)) ∧ (decode cX11_far 13 = .ok (.ifCond .ne 5, 3)) ∧ (decode cX11_far 16 = .ok (.iconst (-1), 1)) ∧ (decode cX11_far 17 = .ok (.ireturn, 1)) ∧ (decode cX11_far 18 = .ok (.aload_n 0, 1)) ∧ (decode cX11_far 19 = .ok (.iload_n 1, 1)) ∧ (decode cX11_far 20 = .ok (.iload_n 2, 1)) ∧ (decode cX11_far 21 = .ok (.invokevirtual 289, 3)) ∧ (decode cX11_far 24 = .ok (.ldc2_w 287, 3)) ∧ (decode cX11_far 27 = .ok (.lcmp, 1)) := by decide +kernel
theorem dX11_far_0 : decode cX11_far 0 = .ok (.aload_n 0, 1) := gdX11_far_0.1
theorem dX11_far_1 : decode cX11_far 1 = .ok (.iload_n 1, 1) := gdX11_far_0.2.1
theorem dX11_far_2 : decode cX11_far 2 = .ok (.invokevirtual 299, 3) := gdX11_far_0.2.2.1
theorem dX11_far_5 : decode cX11_far 5 = .ok (.ifCond .eq 11, 3) := gdX11_far_0.2.2.2.1
theorem dX11_far_8 : decode cX11_far 8 = .ok (.aload_n 0, 1) := gdX11_far_0.2.2.2.2.1
theorem dX11_far_9 : decode cX11_far 9 = .ok (.iload_n 2, 1) := gdX11_far_0.2.2.2.2.2.1
theorem dX11_far_10 : decode cX11_far 10 = .ok (.invokevirtual 299, 3) := gdX11_far_0.2.2.2.2.2.2.1
theorem dX11_far_13 : decode cX11_far 13 = .ok (.ifCond .ne 5, 3) := gdX11_far_0.2.2.2.2.2.2.2.1
theorem dX11_far_16 : decode cX11_far 16 = .ok (.iconst (-1), 1) := gdX11_far_0.2.2.2.2.2.2.2.2.1
theorem dX11_far_17 : decode cX11_far 17 = .ok (.ireturn, 1) := gdX11_far_0.2.2.2.2.2.2.2.2.2.1
theorem dX11_far_18 : decode cX11_far 18 = .ok (.aload_n 0, 1) := gdX11_far_0.2.2.2.2.2.2.2.2.2.2.1
theorem dX11_far_19 : decode cX11_far 19 = .ok (.iload_n 1, 1) := gdX11_far_0.2.2.2.2.2.2.2.2.2.2.2.1
theorem dX11_far_20 : decode cX11_far 20 = .ok (.iload_n 2, 1) := gdX11_far_0.2.2.2.2.2.2.2.2.2.2.2.2.1
theorem dX11_far_21 : decode cX11_far 21 = .ok (.invokevirtual 289, 3) := gdX11_far_0.2.2.2.2.2.2.2.2.2.2.2.2.2.1
theorem dX11_far_24 : decode cX11_far 24 = .ok (.ldc2_w 287, 3) := gdX11_far_0.2.2.2.2.2.2.2.2.2.2.2.2.2.2.1
theorem dX11_far_27 : decode cX11_far 27 = .ok (.lcmp, 1) := gdX11_far_0.2.2.2.2.2.2.2.2.2.2.2.2.2.2.2
theorem gdX11_far_28 : (decode cX11_far 28 = .ok (.ifCond .lt 8, 3)) ∧ (decode cX11_far 31 = .ok (.bipush (-2), 2)) ∧ (decode cX11_far 33 = .ok (.goto 10, 3)) ∧ (decode cX11_far 36 = .ok (.aload_n 0, 1)) ∧ (decode cX11_far 37 = .ok (.iload_n 1, 1)) ∧ (decode cX11_far 38 = .ok (.iload_n 2, 1)) ∧ (decode cX11_far 39 = .ok (.invokevirtual 289, 3)) ∧ (decode cX11_far 42 = .ok (.l2i, 1)) ∧ (decode cX11_far 43 = .ok (.ireturn, 1)) := by decide +kernel
theorem dX11_far_28 : decode cX11_far 28 = .ok (.ifCond .lt 8, 3) := gdX11_far_28.1
theorem dX11_far_31 : decode cX11_far 31 = .ok (.bipush (-2), 2) := gdX11_far_28.2.1
theorem dX11_far_33 : decode cX11_far 33 = .ok (.goto 10, 3) := gdX11_far_28.2.2.1
theorem dX11_far_36 : decode cX11_far 36 = .ok (.aload_n 0, 1) := gdX11_far_28.2.2.2.1
theorem dX11_far_37 : decode cX11_far 37 = .ok (.iload_n 1, 1) := gdX11_far_28.2.2.2.2.1
theorem dX11_far_38 : decode cX11_far 38 = .ok (.iload_n 2, 1) := gdX11_far_28.2.2.2.2.2.1
theorem dX11_far_39 : decode cX11_far 39 = .ok (.invokevirtual 289, 3) := gdX11_far_28.2.2.2.2.2.2.1
theorem dX11_far_42 : decode cX11_far 42 = .ok (.l2i, 1) := gdX11_far_28.2.2.2.2.2.2.2.1
theorem dX11_far_43 : decode cX11_far 43 = .ok (.ireturn, 1) := gdX11_far_28.2.2.2.2.2.2.2.2
theorem gdX11_next_0 : (decode cX11_next 0 = .ok (.aload_n 0, 1)) ∧ (decode cX11_next 1 = .ok (.iload_n 1, 1)) ∧ (decode cX11_next 2 = .ok (.invokevirtual 299, 3)) ∧ (decode cX11_next 5 = .ok (.ifCond .eq 20, 3)) ∧ (decode cX11_next 8 = .ok (.aload_n 0, 1)) ∧ (decode cX11_next 9 = .ok (.iload_n 2, 1)) ∧ (decode cX11_next 10 = .ok (.invokevirtual 299, 3)) ∧ (decode cX11_next 13 = .ok (.ifCond .eq 12, 3)) ∧ (decode cX11_next 16 = .ok (.aload_n 0, 1)) ∧ (decode cX11_next 17 = .ok (.iload_n 1, 1)) ∧ (decode cX11_next 18 = .ok (.iload_n 2, 1)) ∧ (decode cX11_next 19 = .ok (.invokevirtual 343, 3)) ∧ (decode cX11_next 22 = .ok (.goto 4, 3)) ∧ (decode cX11_next 25 = .ok (.iconst (-1), 1)) ∧ (decode cX11_next 26 = .ok (.ireturn, 1)) := by decide +kernel
theorem dX11_next_0 : decode cX11_next 0 = .ok (.aload_n 0, 1) := gdX11_next_0.1
theorem dX11_next_1 : decode cX11_next 1 = .ok (.iload_n 1, 1) := gdX11_next_0.2.1
theorem dX11_next_2 : decode cX11_next 2 = .ok (.invokevirtual 299, 3) := gdX11_next_0.2.2.1
theorem dX11_next_5 : decode cX11_next 5 = .ok (.ifCond .eq 20, 3) := gdX11_next_0.2.2.2.1
theorem dX11_next_8 : decode cX11_next 8 = .ok (.aload_n 0, 1) := gdX11_next_0.2.2.2.2.1
theorem dX11_next_9 : decode cX11_next 9 = .ok (.iload_n 2, 1) := gdX11_next_0.2.2.2.2.2.1
theorem dX11_next_10 : decode cX11_next 10 = .ok (.invokevirtual 299, 3) := gdX11_next_0.2.2.2.2.2.2.1
theorem dX11_next_13 : decode cX11_next 13 = .ok (.ifCond .eq 12, 3) := gdX11_next_0.2.2.2.2.2.2.2.1
theorem dX11_next_16 : decode cX11_next 16 = .ok (.aload_n 0, 1) := gdX11_next_0.2.2.2.2.2.2.2.2.1
theorem dX11_next_17 : decode cX11_next 17 = .ok (.iload_n 1, 1) := gdX11_next_0.2.2.2.2.2.2.2.2.2.1
theorem dX11_next_18 : decode cX11_next 18 = .ok (.iload_n 2, 1) := gdX11_next_0.2.2.2.2.2.2.2.2.2.2.1
theorem dX11_next_19 : decode cX11_next 19 = .ok (.invokevirtual 343, 3) := gdX11_next_0.2.2.2.2.2.2.2.2.2.2.2.1
theorem dX11_next_22 : decode cX11_next 22 = .ok (.goto 4, 3) := gdX11_next_0.2.2.2.2.2.2.2.2.2.2.2.2.1
theorem dX11_next_25 : decode cX11_next 25 = .ok (.iconst (-1), 1) := gdX11_next_0.2.2.2.2.2.2.2.2.2.2.2.2.2.1
theorem dX11_next_26 : decode cX11_next 26 = .ok (.ireturn, 1) := gdX11_next_0.2.2.2.2.2.2.2.2.2.2.2.2.2.2
theorem gdX11_clock_0 : (decode cX11_clock 0 = .ok (.aload_n 0, 1)) ∧ (decode cX11_clock 1 = .ok (.iload_n 1, 1)) ∧ (decode cX11_clock 2 = .ok (.invokevirtual 299, 3)) ∧ (decode cX11_clock 5 = .ok (.ifCond .eq 25, 3)) ∧ (decode cX11_clock 8 = .ok (.iload_n 2, 1)) ∧ (decode cX11_clock 9 = .ok (.i2l, 1)) ∧ (decode cX11_clock 10 = .ok (.lconst 0, 1)) ∧ (decode cX11_clock 11 = .ok (.ldc2_w 365, 3)) ∧ (decode cX11_clock 14 = .ok (.invokestatic 131, 3)) ∧ (decode cX11_clock 17 = .ok (.ifCond .eq 13, 3)) ∧ (decode cX11_clock 20 = .ok (.iload_n 3, 1)) ∧ (decode cX11_clock 21 = .ok (.i2l, 1)) ∧ (decode cX11_clock 22 = .ok (.lconst 0, 1)) ∧ (decode cX11_clock 23 = .ok (.lconst 1, 1)) ∧ (decode cX11_clock 24 = .ok (.invokestatic 131, 3)) ∧ (decode cX11_clock 27 = .ok (.ifCond .ne 7, 3)) := by decide +kernel
theorem dX11_clock_0 : decode cX11_clock 0 = .ok (.aload_n 0, 1) := gdX11_clock_0.1
theorem dX11_clock_1 : decode cX11_clock 1 = .ok (.iload_n 1, 1) := gdX11_clock_0.2.1
theorem dX11_clock_2 : decode cX11_clock 2 = .ok (.invokevirtual 299, 3) := gdX11_clock_0.2.2.1
theorem dX11_clock_5 : decode cX11_clock 5 = .ok (.ifCond .eq 25, 3) := gdX11_clock_0.2.2.2.1
theorem dX11_clock_8 : decode cX11_clock 8 = .ok (.iload_n 2, 1) := gdX11_clock_0.2.2.2.2.1
theorem dX11_clock_9 : decode cX11_clock 9 = .ok (.i2l, 1) := gdX11_clock_0.2.2.2.2.2.1
theorem dX11_clock_10 : decode cX11_clock 10 = .ok (.lconst 0, 1) := gdX11_clock_0.2.2.2.2.2.2.1
theorem dX11_clock_11 : decode cX11_clock 11 = .ok (.ldc2_w 365, 3) := gdX11_clock_0.2.2.2.2.2.2.2.1
theorem dX11_clock_14 : decode cX11_clock 14 = .ok (.invokestatic 131, 3) := gdX11_clock_0.2.2.2.2.2.2.2.2.1
theorem dX11_clock_17 : decode cX11_clock 17 = .ok (.ifCond .eq 13, 3) := gdX11_clock_0.2.2.2.2.2.2.2.2.2.1
theorem dX11_clock_20 : decode cX11_clock 20 = .ok (.iload_n 3, 1) := gdX11_clock_0.2.2.2.2.2.2.2.2.2.2.1
theorem dX11_clock_21 : decode cX11_clock 21 = .ok (.i2l, 1) := gdX11_clock_0.2.2.2.2.2.2.2.2.2.2.2.1
theorem dX11_clock_22 : decode cX11_clock 22 = .ok (.lconst 0, 1) := gdX11_clock_0.2.2.2.2.2.2.2.2.2.2.2.2.1
theorem dX11_clock_23 : decode cX11_clock 23 = .ok (.lconst 1, 1) := gdX11_clock_0.2.2.2.2.2.2.2.2.2.2.2.2.2.1
theorem dX11_clock_24 : decode cX11_clock 24 = .ok (.invokestatic 131, 3) := gdX11_clock_0.2.2.2.2.2.2.2.2.2.2.2.2.2.2.1
theorem dX11_clock_27 : decode cX11_clock 27 = .ok (.ifCond .ne 7, 3) := gdX11_clock_0.2.2.2.2.2.2.2.2.2.2.2.2.2.2.2
theorem gdX11_clock_30 : (decode cX11_clock 30 = .ok (.ldc2_w 321, 3)) ∧ (decode cX11_clock 33 = .ok (.lreturn, 1)) ∧ (decode cX11_clock 34 = .ok (.iload_n 2, 1)) ∧ (decode cX11_clock 35 = .ok (.i2l, 1)) ∧ (decode cX11_clock 36 = .ok (.aload_n 0, 1)) ∧ (decode cX11_clock 37 = .ok (.getfield 45, 3)) ∧ (decode cX11_clock 40 = .ok (.bipush 10, 2)) ∧ (decode cX11_clock 42 = .ok (.iconst 2, 1)) ∧ (decode cX11_clock 43 = .ok (.iload_n 1, 1)) ∧ (decode cX11_clock 44 = .ok (.imul, 1)) ∧ (decode cX11_clock 45 = .ok (.iadd, 1)) ∧ (decode cX11_clock 46 = .ok (.iaload, 1)) ∧ (decode cX11_clock 47 = .ok (.i2l, 1)) ∧ (decode cX11_clock 48 = .ok (.lmul, 1)) ∧ (decode cX11_clock 49 = .ok (.aload_n 0, 1)) ∧ (decode cX11_clock 50 = .ok (.getfield 45, 3)) := by decide +kernel
theorem dX11_clock_30 : decode cX11_clock 30 = .ok (.ldc2_w 321, 3) := gdX11_clock_30.1
theorem dX11_clock_33 : decode cX11_clock 33 = .ok (.lreturn, 1) := gdX11_clock_30.2.1
theorem dX11_clock_34 : decode cX11_clock 34 = .ok (.iload_n 2, 1) := gdX11_clock_30.2.2.1
theorem dX11_clock_35 : decode cX11_clock 35 = .ok (.i2l, 1) := gdX11_clock_30.2.2.2.1
theorem dX11_clock_36 : decode cX11_clock 36 = .ok (.aload_n 0, 1) := gdX11_clock_30.2.2.2.2.1
theorem dX11_clock_37 : decode cX11_clock 37 = .ok (.getfield 45, 3) := gdX11_clock_30.2.2.2.2.2.1
theorem dX11_clock_40 : decode cX11_clock 40 = .ok (.bipush 10, 2) := gdX11_clock_30.2.2.2.2.2.2.1
theorem dX11_clock_42 : decode cX11_clock 42 = .ok (.iconst 2, 1) := gdX11_clock_30.2.2.2.2.2.2.2.1
theorem dX11_clock_43 : decode cX11_clock 43 = .ok (.iload_n 1, 1) := gdX11_clock_30.2.2.2.2.2.2.2.2.1
theorem dX11_clock_44 : decode cX11_clock 44 = .ok (.imul, 1) := gdX11_clock_30.2.2.2.2.2.2.2.2.2.1
theorem dX11_clock_45 : decode cX11_clock 45 = .ok (.iadd, 1) := gdX11_clock_30.2.2.2.2.2.2.2.2.2.2.1
theorem dX11_clock_46 : decode cX11_clock 46 = .ok (.iaload, 1) := gdX11_clock_30.2.2.2.2.2.2.2.2.2.2.2.1
theorem dX11_clock_47 : decode cX11_clock 47 = .ok (.i2l, 1) := gdX11_clock_30.2.2.2.2.2.2.2.2.2.2.2.2.1
theorem dX11_clock_48 : decode cX11_clock 48 = .ok (.lmul, 1) := gdX11_clock_30.2.2.2.2.2.2.2.2.2.2.2.2.2.1
theorem dX11_clock_49 : decode cX11_clock 49 = .ok (.aload_n 0, 1) := gdX11_clock_30.2.2.2.2.2.2.2.2.2.2.2.2.2.2.1
theorem dX11_clock_50 : decode cX11_clock 50 = .ok (.getfield 45, 3) := gdX11_clock_30.2.2.2.2.2.2.2.2.2.2.2.2.2.2.2
theorem gdX11_clock_53 : (decode cX11_clock 53 = .ok (.bipush 10, 2)) ∧ (decode cX11_clock 55 = .ok (.iconst 2, 1)) ∧ (decode cX11_clock 56 = .ok (.iload_n 1, 1)) ∧ (decode cX11_clock 57 = .ok (.imul, 1)) ∧ (decode cX11_clock 58 = .ok (.iadd, 1)) ∧ (decode cX11_clock 59 = .ok (.iconst 1, 1)) ∧ (decode cX11_clock 60 = .ok (.iadd, 1)) ∧ (decode cX11_clock 61 = .ok (.iaload, 1)) ∧ (decode cX11_clock 62 = .ok (.i2l, 1)) ∧ (decode cX11_clock 63 = .ok (.iload_n 3, 1)) ∧ (decode cX11_clock 64 = .ok (.invokestatic 307, 3)) ∧ (decode cX11_clock 67 = .ok (.lreturn, 1)) := by decide +kernel
theorem dX11_clock_53 : decode cX11_clock 53 = .ok (.bipush 10, 2) := gdX11_clock_53.1
theorem dX11_clock_55 : decode cX11_clock 55 = .ok (.iconst 2, 1) := gdX11_clock_53.2.1
theorem dX11_clock_56 : decode cX11_clock 56 = .ok (.iload_n 1, 1) := gdX11_clock_53.2.2.1
theorem dX11_clock_57 : decode cX11_clock 57 = .ok (.imul, 1) := gdX11_clock_53.2.2.2.1
theorem dX11_clock_58 : decode cX11_clock 58 = .ok (.iadd, 1) := gdX11_clock_53.2.2.2.2.1
theorem dX11_clock_59 : decode cX11_clock 59 = .ok (.iconst 1, 1) := gdX11_clock_53.2.2.2.2.2.1
theorem dX11_clock_60 : decode cX11_clock 60 = .ok (.iadd, 1) := gdX11_clock_53.2.2.2.2.2.2.1
theorem dX11_clock_61 : decode cX11_clock 61 = .ok (.iaload, 1) := gdX11_clock_53.2.2.2.2.2.2.2.1
theorem dX11_clock_62 : decode cX11_clock 62 = .ok (.i2l, 1) := gdX11_clock_53.2.2.2.2.2.2.2.2.1
theorem dX11_clock_63 : decode cX11_clock 63 = .ok (.iload_n 3, 1) := gdX11_clock_53.2.2.2.2.2.2.2.2.2.1
theorem dX11_clock_64 : decode cX11_clock 64 = .ok (.invokestatic 307, 3) := gdX11_clock_53.2.2.2.2.2.2.2.2.2.2.1
theorem dX11_clock_67 : decode cX11_clock 67 = .ok (.lreturn, 1) := gdX11_clock_53.2.2.2.2.2.2.2.2.2.2.2
theorem gdX11_noons_0 : (decode cX11_noons 0 = .ok (.aload_n 0, 1)) ∧ (decode cX11_noons 1 = .ok (.iload_n 1, 1)) ∧ (decode cX11_noons 2 = .ok (.invokevirtual 299, 3)) ∧ (decode cX11_noons 5 = .ok (.ifCond .eq 21, 3)) ∧ (decode cX11_noons 8 = .ok (.aload_n 0, 1)) ∧ (decode cX11_noons 9 = .ok (.iload_n 2, 1)) ∧ (decode cX11_noons 10 = .ok (.invokevirtual 299, 3)) ∧ (decode cX11_noons 13 = .ok (.ifCond .eq 13, 3)) ∧ (decode cX11_noons 16 = .ok (.iload_n 3, 1)) ∧ (decode cX11_noons 17 = .ok (.i2l, 1)) ∧ (decode cX11_noons 18 = .ok (.lconst 0, 1)) ∧ (decode cX11_noons 19 = .ok (.lconst 1, 1)) ∧ (decode cX11_noons 20 = .ok (.invokestatic 131, 3)) ∧ (decode cX11_noons 23 = .ok (.ifCond .ne 7, 3)) ∧ (decode cX11_noons 26 = .ok (.ldc2_w 321, 3)) ∧ (decode cX11_noons 29 = .ok (.lreturn, 1)) := by decide +kernel
theorem dX11_noons_0 : decode cX11_noons 0 = .ok (.aload_n 0, 1) := gdX11_noons_0.1
theorem dX11_noons_1 : decode cX11_noons 1 = .ok (.iload_n 1, 1) := gdX11_noons_0.2.1
theorem dX11_noons_2 : decode cX11_noons 2 = .ok (.invokevirtual 299, 3) := gdX11_noons_0.2.2.1
theorem dX11_noons_5 : decode cX11_noons 5 = .ok (.ifCond .eq 21, 3) := gdX11_noons_0.2.2.2.1
theorem dX11_noons_8 : decode cX11_noons 8 = .ok (.aload_n 0, 1) := gdX11_noons_0.2.2.2.2.1
theorem dX11_noons_9 : decode cX11_noons 9 = .ok (.iload_n 2, 1) := gdX11_noons_0.2.2.2.2.2.1
theorem dX11_noons_10 : decode cX11_noons 10 = .ok (.invokevirtual 299, 3) := gdX11_noons_0.2.2.2.2.2.2.1
theorem dX11_noons_13 : decode cX11_noons 13 = .ok (.ifCond .eq 13, 3) := gdX11_noons_0.2.2.2.2.2.2.2.1
theorem dX11_noons_16 : decode cX11_noons 16 = .ok (.iload_n 3, 1) := gdX11_noons_0.2.2.2.2.2.2.2.2.1
theorem dX11_noons_17 : decode cX11_noons 17 = .ok (.i2l, 1) := gdX11_noons_0.2.2.2.2.2.2.2.2.2.1
theorem dX11_noons_18 : decode cX11_noons 18 = .ok (.lconst 0, 1) := gdX11_noons_0.2.2.2.2.2.2.2.2.2.2.1
theorem dX11_noons_19 : decode cX11_noons 19 = .ok (.lconst 1, 1) := gdX11_noons_0.2.2.2.2.2.2.2.2.2.2.2.1
theorem dX11_noons_20 : decode cX11_noons 20 = .ok (.invokestatic 131, 3) := gdX11_noons_0.2.2.2.2.2.2.2.2.2.2.2.2.1
theorem dX11_noons_23 : decode cX11_noons 23 = .ok (.ifCond .ne 7, 3) := gdX11_noons_0.2.2.2.2.2.2.2.2.2.2.2.2.2.1
theorem dX11_noons_26 : decode cX11_noons 26 = .ok (.ldc2_w 321, 3) := gdX11_noons_0.2.2.2.2.2.2.2.2.2.2.2.2.2.2.1
theorem dX11_noons_29 : decode cX11_noons 29 = .ok (.lreturn, 1) := gdX11_noons_0.2.2.2.2.2.2.2.2.2.2.2.2.2.2.2
theorem gdX11_noons_30 : (decode cX11_noons 30 = .ok (.aload_n 0, 1)) ∧ (decode cX11_noons 31 = .ok (.getfield 45, 3)) ∧ (decode cX11_noons 34 = .ok (.bipush 10, 2)) ∧ (decode cX11_noons 36 = .ok (.iconst 2, 1)) ∧ (decode cX11_noons 37 = .ok (.iload_n 1, 1)) ∧ (decode cX11_noons 38 = .ok (.imul, 1)) ∧ (decode cX11_noons 39 = .ok (.iadd, 1)) ∧ (decode cX11_noons 40 = .ok (.iaload, 1)) ∧ (decode cX11_noons 41 = .ok (.i2l, 1)) ∧ (decode cX11_noons 42 = .ok (.lstore 4, 2)) ∧ (decode cX11_noons 44 = .ok (.aload_n 0, 1)) ∧ (decode cX11_noons 45 = .ok (.getfield 45, 3)) ∧ (decode cX11_noons 48 = .ok (.bipush 10, 2)) ∧ (decode cX11_noons 50 = .ok (.iconst 2, 1)) ∧ (decode cX11_noons 51 = .ok (.iload_n 1, 1)) ∧ (decode cX11_noons 52 = .ok (.imul, 1)) := by decide +kernel
theorem dX11_noons_30 : decode cX11_noons 30 = .ok (.aload_n 0, 1) := gdX11_noons_30.1
theorem dX11_noons_31 : decode cX11_noons 31 = .ok (.getfield 45, 3) := gdX11_noons_30.2.1
theorem dX11_noons_34 : decode cX11_noons 34 = .ok (.bipush 10, 2) := gdX11_noons_30.2.2.1
theorem dX11_noons_36 : decode cX11_noons 36 = .ok (.iconst 2, 1) := gdX11_noons_30.2.2.2.1
theorem dX11_noons_37 : decode cX11_noons 37 = .ok (.iload_n 1, 1) := gdX11_noons_30.2.2.2.2.1
theorem dX11_noons_38 : decode cX11_noons 38 = .ok (.imul, 1) := gdX11_noons_30.2.2.2.2.2.1
theorem dX11_noons_39 : decode cX11_noons 39 = .ok (.iadd, 1) := gdX11_noons_30.2.2.2.2.2.2.1
theorem dX11_noons_40 : decode cX11_noons 40 = .ok (.iaload, 1) := gdX11_noons_30.2.2.2.2.2.2.2.1
theorem dX11_noons_41 : decode cX11_noons 41 = .ok (.i2l, 1) := gdX11_noons_30.2.2.2.2.2.2.2.2.1
theorem dX11_noons_42 : decode cX11_noons 42 = .ok (.lstore 4, 2) := gdX11_noons_30.2.2.2.2.2.2.2.2.2.1
theorem dX11_noons_44 : decode cX11_noons 44 = .ok (.aload_n 0, 1) := gdX11_noons_30.2.2.2.2.2.2.2.2.2.2.1
theorem dX11_noons_45 : decode cX11_noons 45 = .ok (.getfield 45, 3) := gdX11_noons_30.2.2.2.2.2.2.2.2.2.2.2.1
theorem dX11_noons_48 : decode cX11_noons 48 = .ok (.bipush 10, 2) := gdX11_noons_30.2.2.2.2.2.2.2.2.2.2.2.2.1
theorem dX11_noons_50 : decode cX11_noons 50 = .ok (.iconst 2, 1) := gdX11_noons_30.2.2.2.2.2.2.2.2.2.2.2.2.2.1
theorem dX11_noons_51 : decode cX11_noons 51 = .ok (.iload_n 1, 1) := gdX11_noons_30.2.2.2.2.2.2.2.2.2.2.2.2.2.2.1
theorem dX11_noons_52 : decode cX11_noons 52 = .ok (.imul, 1) := gdX11_noons_30.2.2.2.2.2.2.2.2.2.2.2.2.2.2.2
theorem gdX11_noons_53 : (decode cX11_noons 53 = .ok (.iadd, 1)) ∧ (decode cX11_noons 54 = .ok (.iconst 1, 1)) ∧ (decode cX11_noons 55 = .ok (.iadd, 1)) ∧ (decode cX11_noons 56 = .ok (.iaload, 1)) ∧ (decode cX11_noons 57 = .ok (.i2l, 1)) ∧ (decode cX11_noons 58 = .ok (.lstore 6, 2)) ∧ (decode cX11_noons 60 = .ok (.lload 6, 2)) ∧ (decode cX11_noons 62 = .ok (.aload_n 0, 1)) ∧ (decode cX11_noons 63 = .ok (.getfield 45, 3)) ∧ (decode cX11_noons 66 = .ok (.bipush 10, 2)) ∧ (decode cX11_noons 68 = .ok (.iconst 2, 1)) ∧ (decode cX11_noons 69 = .ok (.iload_n 2, 1)) ∧ (decode cX11_noons 70 = .ok (.imul, 1)) ∧ (decode cX11_noons 71 = .ok (.iadd, 1)) ∧ (decode cX11_noons 72 = .ok (.iaload, 1)) ∧ (decode cX11_noons 73 = .ok (.i2l, 1)) := by decide +kernel
theorem dX11_noons_53 : decode cX11_noons 53 = .ok (.iadd, 1) := gdX11_noons_53.1
theorem dX11_noons_54 : decode cX11_noons 54 = .ok (.iconst 1, 1) := gdX11_noons_53.2.1
theorem dX11_noons_55 : decode cX11_noons 55 = .ok (.iadd, 1) := gdX11_noons_53.2.2.1
theorem dX11_noons_56 : decode cX11_noons 56 = .ok (.iaload, 1) := gdX11_noons_53.2.2.2.1
theorem dX11_noons_57 : decode cX11_noons 57 = .ok (.i2l, 1) := gdX11_noons_53.2.2.2.2.1
theorem dX11_noons_58 : decode cX11_noons 58 = .ok (.lstore 6, 2) := gdX11_noons_53.2.2.2.2.2.1
theorem dX11_noons_60 : decode cX11_noons 60 = .ok (.lload 6, 2) := gdX11_noons_53.2.2.2.2.2.2.1
theorem dX11_noons_62 : decode cX11_noons 62 = .ok (.aload_n 0, 1) := gdX11_noons_53.2.2.2.2.2.2.2.1
theorem dX11_noons_63 : decode cX11_noons 63 = .ok (.getfield 45, 3) := gdX11_noons_53.2.2.2.2.2.2.2.2.1
theorem dX11_noons_66 : decode cX11_noons 66 = .ok (.bipush 10, 2) := gdX11_noons_53.2.2.2.2.2.2.2.2.2.1
theorem dX11_noons_68 : decode cX11_noons 68 = .ok (.iconst 2, 1) := gdX11_noons_53.2.2.2.2.2.2.2.2.2.2.1
theorem dX11_noons_69 : decode cX11_noons 69 = .ok (.iload_n 2, 1) := gdX11_noons_53.2.2.2.2.2.2.2.2.2.2.2.1
theorem dX11_noons_70 : decode cX11_noons 70 = .ok (.imul, 1) := gdX11_noons_53.2.2.2.2.2.2.2.2.2.2.2.2.1
theorem dX11_noons_71 : decode cX11_noons 71 = .ok (.iadd, 1) := gdX11_noons_53.2.2.2.2.2.2.2.2.2.2.2.2.2.1
theorem dX11_noons_72 : decode cX11_noons 72 = .ok (.iaload, 1) := gdX11_noons_53.2.2.2.2.2.2.2.2.2.2.2.2.2.2.1
theorem dX11_noons_73 : decode cX11_noons 73 = .ok (.i2l, 1) := gdX11_noons_53.2.2.2.2.2.2.2.2.2.2.2.2.2.2.2
theorem gdX11_noons_74 : (decode cX11_noons 74 = .ok (.lmul, 1)) ∧ (decode cX11_noons 75 = .ok (.lstore 8, 2)) ∧ (decode cX11_noons 77 = .ok (.aload_n 0, 1)) ∧ (decode cX11_noons 78 = .ok (.getfield 45, 3)) ∧ (decode cX11_noons 81 = .ok (.bipush 10, 2)) ∧ (decode cX11_noons 83 = .ok (.iconst 2, 1)) ∧ (decode cX11_noons 84 = .ok (.iload_n 2, 1)) ∧ (decode cX11_noons 85 = .ok (.imul, 1)) ∧ (decode cX11_noons 86 = .ok (.iadd, 1)) ∧ (decode cX11_noons 87 = .ok (.iconst 1, 1)) ∧ (decode cX11_noons 88 = .ok (.iadd, 1)) ∧ (decode cX11_noons 89 = .ok (.iaload, 1)) ∧ (decode cX11_noons 90 = .ok (.i2l, 1)) ∧ (decode cX11_noons 91 = .ok (.lload 4, 2)) ∧ (decode cX11_noons 93 = .ok (.lmul, 1)) ∧ (decode cX11_noons 94 = .ok (.lstore 10, 2)) := by decide +kernel
theorem dX11_noons_74 : decode cX11_noons 74 = .ok (.lmul, 1) := gdX11_noons_74.1
theorem dX11_noons_75 : decode cX11_noons 75 = .ok (.lstore 8, 2) := gdX11_noons_74.2.1
theorem dX11_noons_77 : decode cX11_noons 77 = .ok (.aload_n 0, 1) := gdX11_noons_74.2.2.1
theorem dX11_noons_78 : decode cX11_noons 78 = .ok (.getfield 45, 3) := gdX11_noons_74.2.2.2.1
theorem dX11_noons_81 : decode cX11_noons 81 = .ok (.bipush 10, 2) := gdX11_noons_74.2.2.2.2.1
theorem dX11_noons_83 : decode cX11_noons 83 = .ok (.iconst 2, 1) := gdX11_noons_74.2.2.2.2.2.1
theorem dX11_noons_84 : decode cX11_noons 84 = .ok (.iload_n 2, 1) := gdX11_noons_74.2.2.2.2.2.2.1
theorem dX11_noons_85 : decode cX11_noons 85 = .ok (.imul, 1) := gdX11_noons_74.2.2.2.2.2.2.2.1
theorem dX11_noons_86 : decode cX11_noons 86 = .ok (.iadd, 1) := gdX11_noons_74.2.2.2.2.2.2.2.2.1
theorem dX11_noons_87 : decode cX11_noons 87 = .ok (.iconst 1, 1) := gdX11_noons_74.2.2.2.2.2.2.2.2.2.1
theorem dX11_noons_88 : decode cX11_noons 88 = .ok (.iadd, 1) := gdX11_noons_74.2.2.2.2.2.2.2.2.2.2.1
theorem dX11_noons_89 : decode cX11_noons 89 = .ok (.iaload, 1) := gdX11_noons_74.2.2.2.2.2.2.2.2.2.2.2.1
theorem dX11_noons_90 : decode cX11_noons 90 = .ok (.i2l, 1) := gdX11_noons_74.2.2.2.2.2.2.2.2.2.2.2.2.1
theorem dX11_noons_91 : decode cX11_noons 91 = .ok (.lload 4, 2) := gdX11_noons_74.2.2.2.2.2.2.2.2.2.2.2.2.2.1
theorem dX11_noons_93 : decode cX11_noons 93 = .ok (.lmul, 1) := gdX11_noons_74.2.2.2.2.2.2.2.2.2.2.2.2.2.2.1
theorem dX11_noons_94 : decode cX11_noons 94 = .ok (.lstore 10, 2) := gdX11_noons_74.2.2.2.2.2.2.2.2.2.2.2.2.2.2.2
theorem gdX11_noons_96 : (decode cX11_noons 96 = .ok (.lload 10, 2)) ∧ (decode cX11_noons 98 = .ok (.lload 8, 2)) ∧ (decode cX11_noons 100 = .ok (.iconst 0, 1)) ∧ (decode cX11_noons 101 = .ok (.invokestatic 307, 3)) ∧ (decode cX11_noons 104 = .ok (.lstore 12, 2)) ∧ (decode cX11_noons 106 = .ok (.lload 12, 2)) ∧ (decode cX11_noons 108 = .ok (.ldc2_w 302, 3)) ∧ (decode cX11_noons 111 = .ok (.lrem, 1)) ∧ (decode cX11_noons 112 = .ok (.lconst 0, 1)) ∧ (decode cX11_noons 113 = .ok (.lcmp, 1)) ∧ (decode cX11_noons 114 = .ok (.ifCond .eq 20, 3)) ∧ (decode cX11_noons 117 = .ok (.lload 10, 2)) ∧ (decode cX11_noons 119 = .ok (.lload 8, 2)) ∧ (decode cX11_noons 121 = .ok (.iconst 1, 1)) ∧ (decode cX11_noons 122 = .ok (.invokestatic 307, 3)) ∧ (decode cX11_noons 125 = .ok (.ldc2_w 302, 3)) := by decide +kernel
theorem dX11_noons_96 : decode cX11_noons 96 = .ok (.lload 10, 2) := gdX11_noons_96.1
theorem dX11_noons_98 : decode cX11_noons 98 = .ok (.lload 8, 2) := gdX11_noons_96.2.1
theorem dX11_noons_100 : decode cX11_noons 100 = .ok (.iconst 0, 1) := gdX11_noons_96.2.2.1
theorem dX11_noons_101 : decode cX11_noons 101 = .ok (.invokestatic 307, 3) := gdX11_noons_96.2.2.2.1
theorem dX11_noons_104 : decode cX11_noons 104 = .ok (.lstore 12, 2) := gdX11_noons_96.2.2.2.2.1
theorem dX11_noons_106 : decode cX11_noons 106 = .ok (.lload 12, 2) := gdX11_noons_96.2.2.2.2.2.1
theorem dX11_noons_108 : decode cX11_noons 108 = .ok (.ldc2_w 302, 3) := gdX11_noons_96.2.2.2.2.2.2.1
theorem dX11_noons_111 : decode cX11_noons 111 = .ok (.lrem, 1) := gdX11_noons_96.2.2.2.2.2.2.2.1
theorem dX11_noons_112 : decode cX11_noons 112 = .ok (.lconst 0, 1) := gdX11_noons_96.2.2.2.2.2.2.2.2.1
theorem dX11_noons_113 : decode cX11_noons 113 = .ok (.lcmp, 1) := gdX11_noons_96.2.2.2.2.2.2.2.2.2.1
theorem dX11_noons_114 : decode cX11_noons 114 = .ok (.ifCond .eq 20, 3) := gdX11_noons_96.2.2.2.2.2.2.2.2.2.2.1
theorem dX11_noons_117 : decode cX11_noons 117 = .ok (.lload 10, 2) := gdX11_noons_96.2.2.2.2.2.2.2.2.2.2.2.1
theorem dX11_noons_119 : decode cX11_noons 119 = .ok (.lload 8, 2) := gdX11_noons_96.2.2.2.2.2.2.2.2.2.2.2.2.1
theorem dX11_noons_121 : decode cX11_noons 121 = .ok (.iconst 1, 1) := gdX11_noons_96.2.2.2.2.2.2.2.2.2.2.2.2.2.1
theorem dX11_noons_122 : decode cX11_noons 122 = .ok (.invokestatic 307, 3) := gdX11_noons_96.2.2.2.2.2.2.2.2.2.2.2.2.2.2.1
theorem dX11_noons_125 : decode cX11_noons 125 = .ok (.ldc2_w 302, 3) := gdX11_noons_96.2.2.2.2.2.2.2.2.2.2.2.2.2.2.2
theorem gdX11_noons_128 : (decode cX11_noons 128 = .ok (.lrem, 1)) ∧ (decode cX11_noons 129 = .ok (.lconst 0, 1)) ∧ (decode cX11_noons 130 = .ok (.lcmp, 1)) ∧ (decode cX11_noons 131 = .ok (.ifCond .ne 7, 3)) ∧ (decode cX11_noons 134 = .ok (.ldc2_w 360, 3)) ∧ (decode cX11_noons 137 = .ok (.lreturn, 1)) ∧ (decode cX11_noons 138 = .ok (.ldc2_w 367, 3)) ∧ (decode cX11_noons 141 = .ok (.lload 12, 2)) ∧ (decode cX11_noons 143 = .ok (.lmul, 1)) ∧ (decode cX11_noons 144 = .ok (.lload 6, 2)) ∧ (decode cX11_noons 146 = .ok (.lmul, 1)) ∧ (decode cX11_noons 147 = .ok (.lload 4, 2)) ∧ (decode cX11_noons 149 = .ok (.iload_n 3, 1)) ∧ (decode cX11_noons 150 = .ok (.invokestatic 307, 3)) ∧ (decode cX11_noons 153 = .ok (.lreturn, 1)) := by decide +kernel
theorem dX11_noons_128 : decode cX11_noons 128 = .ok (.lrem, 1) := gdX11_noons_128.1
theorem dX11_noons_129 : decode cX11_noons 129 = .ok (.lconst 0, 1) := gdX11_noons_128.2.1
theorem dX11_noons_130 : decode cX11_noons 130 = .ok (.lcmp, 1) := gdX11_noons_128.2.2.1
theorem dX11_noons_131 : decode cX11_noons 131 = .ok (.ifCond .ne 7, 3) := gdX11_noons_128.2.2.2.1
theorem dX11_noons_134 : decode cX11_noons 134 = .ok (.ldc2_w 360, 3) := gdX11_noons_128.2.2.2.2.1
theorem dX11_noons_137 : decode cX11_noons 137 = .ok (.lreturn, 1) := gdX11_noons_128.2.2.2.2.2.1
theorem dX11_noons_138 : decode cX11_noons 138 = .ok (.ldc2_w 367, 3) := gdX11_noons_128.2.2.2.2.2.2.1
theorem dX11_noons_141 : decode cX11_noons 141 = .ok (.lload 12, 2) := gdX11_noons_128.2.2.2.2.2.2.2.1
theorem dX11_noons_143 : decode cX11_noons 143 = .ok (.lmul, 1) := gdX11_noons_128.2.2.2.2.2.2.2.2.1
theorem dX11_noons_144 : decode cX11_noons 144 = .ok (.lload 6, 2) := gdX11_noons_128.2.2.2.2.2.2.2.2.2.1
theorem dX11_noons_146 : decode cX11_noons 146 = .ok (.lmul, 1) := gdX11_noons_128.2.2.2.2.2.2.2.2.2.2.1
theorem dX11_noons_147 : decode cX11_noons 147 = .ok (.lload 4, 2) := gdX11_noons_128.2.2.2.2.2.2.2.2.2.2.2.1
theorem dX11_noons_149 : decode cX11_noons 149 = .ok (.iload_n 3, 1) := gdX11_noons_128.2.2.2.2.2.2.2.2.2.2.2.2.1
theorem dX11_noons_150 : decode cX11_noons 150 = .ok (.invokestatic 307, 3) := gdX11_noons_128.2.2.2.2.2.2.2.2.2.2.2.2.2.1
theorem dX11_noons_153 : decode cX11_noons 153 = .ok (.lreturn, 1) := gdX11_noons_128.2.2.2.2.2.2.2.2.2.2.2.2.2.2
theorem gdX11_isBetter_0 : (decode cX11_isBetter 0 = .ok (.lload_n 3, 1)) ∧ (decode cX11_isBetter 1 = .ok (.lconst 0, 1)) ∧ (decode cX11_isBetter 2 = .ok (.lcmp, 1)) ∧ (decode cX11_isBetter 3 = .ok (.ifCond .lt 23, 3)) ∧ (decode cX11_isBetter 6 = .ok (.iload 5, 2)) ∧ (decode cX11_isBetter 8 = .ok (.ifCond .eq 12, 3)) ∧ (decode cX11_isBetter 11 = .ok (.lload_n 1, 1)) ∧ (decode cX11_isBetter 12 = .ok (.lload_n 3, 1)) ∧ (decode cX11_isBetter 13 = .ok (.lcmp, 1)) ∧ (decode cX11_isBetter 14 = .ok (.ifCond .le 16, 3)) ∧ (decode cX11_isBetter 17 = .ok (.goto 9, 3)) ∧ (decode cX11_isBetter 20 = .ok (.lload_n 1, 1)) ∧ (decode cX11_isBetter 21 = .ok (.lload_n 3, 1)) ∧ (decode cX11_isBetter 22 = .ok (.lcmp, 1)) ∧ (decode cX11_isBetter 23 = .ok (.ifCond .ge 7, 3)) ∧ (decode cX11_isBetter 26 = .ok (.iconst 1, 1)) := by decide +kernel
theorem dX11_isBetter_0 : decode cX11_isBetter 0 = .ok (.lload_n 3, 1) := gdX11_isBetter_0.1
theorem dX11_isBetter_1 : decode cX11_isBetter 1 = .ok (.lconst 0, 1) := gdX11_isBetter_0.2.1
theorem dX11_isBetter_2 : decode cX11_isBetter 2 = .ok (.lcmp, 1) := gdX11_isBetter_0.2.2.1
theorem dX11_isBetter_3 : decode cX11_isBetter 3 = .ok (.ifCond .lt 23, 3) := gdX11_isBetter_0.2.2.2.1
theorem dX11_isBetter_6 : decode cX11_isBetter 6 = .ok (.iload 5, 2) := gdX11_isBetter_0.2.2.2.2.1
theorem dX11_isBetter_8 : decode cX11_isBetter 8 = .ok (.ifCond .eq 12, 3) := gdX11_isBetter_0.2.2.2.2.2.1
theorem dX11_isBetter_11 : decode cX11_isBetter 11 = .ok (.lload_n 1, 1) := gdX11_isBetter_0.2.2.2.2.2.2.1
theorem dX11_isBetter_12 : decode cX11_isBetter 12 = .ok (.lload_n 3, 1) := gdX11_isBetter_0.2.2.2.2.2.2.2.1
theorem dX11_isBetter_13 : decode cX11_isBetter 13 = .ok (.lcmp, 1) := gdX11_isBetter_0.2.2.2.2.2.2.2.2.1
theorem dX11_isBetter_14 : decode cX11_isBetter 14 = .ok (.ifCond .le 16, 3) := gdX11_isBetter_0.2.2.2.2.2.2.2.2.2.1
theorem dX11_isBetter_17 : decode cX11_isBetter 17 = .ok (.goto 9, 3) := gdX11_isBetter_0.2.2.2.2.2.2.2.2.2.2.1
theorem dX11_isBetter_20 : decode cX11_isBetter 20 = .ok (.lload_n 1, 1) := gdX11_isBetter_0.2.2.2.2.2.2.2.2.2.2.2.1
theorem dX11_isBetter_21 : decode cX11_isBetter 21 = .ok (.lload_n 3, 1) := gdX11_isBetter_0.2.2.2.2.2.2.2.2.2.2.2.2.1
theorem dX11_isBetter_22 : decode cX11_isBetter 22 = .ok (.lcmp, 1) := gdX11_isBetter_0.2.2.2.2.2.2.2.2.2.2.2.2.2.1
theorem dX11_isBetter_23 : decode cX11_isBetter 23 = .ok (.ifCond .ge 7, 3) := gdX11_isBetter_0.2.2.2.2.2.2.2.2.2.2.2.2.2.2.1
theorem dX11_isBetter_26 : decode cX11_isBetter 26 = .ok (.iconst 1, 1) := gdX11_isBetter_0.2.2.2.2.2.2.2.2.2.2.2.2.2.2.2
theorem gdX11_isBetter_27 : (decode cX11_isBetter 27 = .ok (.goto 4, 3)) ∧ (decode cX11_isBetter 30 = .ok (.iconst 0, 1)) ∧ (decode cX11_isBetter 31 = .ok (.ireturn, 1)) := by decide +kernel
theorem dX11_isBetter_27 : decode cX11_isBetter 27 = .ok (.goto 4, 3) := gdX11_isBetter_27.1
theorem dX11_isBetter_30 : decode cX11_isBetter 30 = .ok (.iconst 0, 1) := gdX11_isBetter_27.2.1
theorem dX11_isBetter_31 : decode cX11_isBetter 31 = .ok (.ireturn, 1) := gdX11_isBetter_27.2.2
theorem gdX11_by_0 : (decode cX11_by 0 = .ok (.iload_n 3, 1)) ∧ (decode cX11_by 1 = .ok (.ifCond .ge 7, 3)) ∧ (decode cX11_by 4 = .ok (.iconst 1, 1)) ∧ (decode cX11_by 5 = .ok (.goto 9, 3)) ∧ (decode cX11_by 8 = .ok (.aload_n 0, 1)) ∧ (decode cX11_by 9 = .ok (.iload_n 3, 1)) ∧ (decode cX11_by 10 = .ok (.iconst 2, 1)) ∧ (decode cX11_by 11 = .ok (.invokevirtual 283, 3)) ∧ (decode cX11_by 14 = .ok (.istore 5, 2)) ∧ (decode cX11_by 16 = .ok (.iload_n 3, 1)) ∧ (decode cX11_by 17 = .ok (.ifCond .ge 7, 3)) ∧ (decode cX11_by 20 = .ok (.iload_n 1, 1)) ∧ (decode cX11_by 21 = .ok (.goto 9, 3)) ∧ (decode cX11_by 24 = .ok (.aload_n 0, 1)) ∧ (decode cX11_by 25 = .ok (.iload_n 3, 1)) ∧ (decode cX11_by 26 = .ok (.iload_n 1, 1)) := by decide +kernel
theorem dX11_by_0 : decode cX11_by 0 = .ok (.iload_n 3, 1) := gdX11_by_0.1
theorem dX11_by_1 : decode cX11_by 1 = .ok (.ifCond .ge 7, 3) := gdX11_by_0.2.1
theorem dX11_by_4 : decode cX11_by 4 = .ok (.iconst 1, 1) := gdX11_by_0.2.2.1
theorem dX11_by_5 : decode cX11_by 5 = .ok (.goto 9, 3) := gdX11_by_0.2.2.2.1
theorem dX11_by_8 : decode cX11_by 8 = .ok (.aload_n 0, 1) := gdX11_by_0.2.2.2.2.1
theorem dX11_by_9 : decode cX11_by 9 = .ok (.iload_n 3, 1) := gdX11_by_0.2.2.2.2.2.1
theorem dX11_by_10 : decode cX11_by 10 = .ok (.iconst 2, 1) := gdX11_by_0.2.2.2.2.2.2.1
theorem dX11_by_11 : decode cX11_by 11 = .ok (.invokevirtual 283, 3) := gdX11_by_0.2.2.2.2.2.2.2.1
theorem dX11_by_14 : decode cX11_by 14 = .ok (.istore 5, 2) := gdX11_by_0.2.2.2.2.2.2.2.2.1
theorem dX11_by_16 : decode cX11_by 16 = .ok (.iload_n 3, 1) := gdX11_by_0.2.2.2.2.2.2.2.2.2.1
theorem dX11_by_17 : decode cX11_by 17 = .ok (.ifCond .ge 7, 3) := gdX11_by_0.2.2.2.2.2.2.2.2.2.2.1
theorem dX11_by_20 : decode cX11_by 20 = .ok (.iload_n 1, 1) := gdX11_by_0.2.2.2.2.2.2.2.2.2.2.2.1
theorem dX11_by_21 : decode cX11_by 21 = .ok (.goto 9, 3) := gdX11_by_0.2.2.2.2.2.2.2.2.2.2.2.2.1
theorem dX11_by_24 : decode cX11_by 24 = .ok (.aload_n 0, 1) := gdX11_by_0.2.2.2.2.2.2.2.2.2.2.2.2.2.1
theorem dX11_by_25 : decode cX11_by 25 = .ok (.iload_n 3, 1) := gdX11_by_0.2.2.2.2.2.2.2.2.2.2.2.2.2.2.1
theorem dX11_by_26 : decode cX11_by 26 = .ok (.iload_n 1, 1) := gdX11_by_0.2.2.2.2.2.2.2.2.2.2.2.2.2.2.2
theorem gdX11_by_27 : (decode cX11_by 27 = .ok (.invokevirtual 293, 3)) ∧ (decode cX11_by 30 = .ok (.istore 6, 2)) ∧ (decode cX11_by 32 = .ok (.iload 6, 2)) ∧ (decode cX11_by 34 = .ok (.ifCond .lt 32, 3)) ∧ (decode cX11_by 37 = .ok (.iload_n 2, 1)) ∧ (decode cX11_by 38 = .ok (.iload 5, 2)) ∧ (decode cX11_by 40 = .ok (.iadd, 1)) ∧ (decode cX11_by 41 = .ok (.iload 4, 2)) ∧ (decode cX11_by 43 = .ok (.if_icmp .gt 23, 3)) ∧ (decode cX11_by 46 = .ok (.aload_n 0, 1)) ∧ (decode cX11_by 47 = .ok (.getfield 60, 3)) ∧ (decode cX11_by 50 = .ok (.bipush 10, 2)) ∧ (decode cX11_by 52 = .ok (.iload_n 2, 1)) ∧ (decode cX11_by 53 = .ok (.iload 5, 2)) ∧ (decode cX11_by 55 = .ok (.iadd, 1)) ∧ (decode cX11_by 56 = .ok (.imul, 1)) := by decide +kernel
theorem dX11_by_27 : decode cX11_by 27 = .ok (.invokevirtual 293, 3) := gdX11_by_27.1
theorem dX11_by_30 : decode cX11_by 30 = .ok (.istore 6, 2) := gdX11_by_27.2.1
theorem dX11_by_32 : decode cX11_by 32 = .ok (.iload 6, 2) := gdX11_by_27.2.2.1
theorem dX11_by_34 : decode cX11_by 34 = .ok (.ifCond .lt 32, 3) := gdX11_by_27.2.2.2.1
theorem dX11_by_37 : decode cX11_by 37 = .ok (.iload_n 2, 1) := gdX11_by_27.2.2.2.2.1
theorem dX11_by_38 : decode cX11_by 38 = .ok (.iload 5, 2) := gdX11_by_27.2.2.2.2.2.1
theorem dX11_by_40 : decode cX11_by 40 = .ok (.iadd, 1) := gdX11_by_27.2.2.2.2.2.2.1
theorem dX11_by_41 : decode cX11_by 41 = .ok (.iload 4, 2) := gdX11_by_27.2.2.2.2.2.2.2.1
theorem dX11_by_43 : decode cX11_by 43 = .ok (.if_icmp .gt 23, 3) := gdX11_by_27.2.2.2.2.2.2.2.2.1
theorem dX11_by_46 : decode cX11_by 46 = .ok (.aload_n 0, 1) := gdX11_by_27.2.2.2.2.2.2.2.2.2.1
theorem dX11_by_47 : decode cX11_by 47 = .ok (.getfield 60, 3) := gdX11_by_27.2.2.2.2.2.2.2.2.2.2.1
theorem dX11_by_50 : decode cX11_by 50 = .ok (.bipush 10, 2) := gdX11_by_27.2.2.2.2.2.2.2.2.2.2.2.1
theorem dX11_by_52 : decode cX11_by 52 = .ok (.iload_n 2, 1) := gdX11_by_27.2.2.2.2.2.2.2.2.2.2.2.2.1
theorem dX11_by_53 : decode cX11_by 53 = .ok (.iload 5, 2) := gdX11_by_27.2.2.2.2.2.2.2.2.2.2.2.2.2.1
theorem dX11_by_55 : decode cX11_by 55 = .ok (.iadd, 1) := gdX11_by_27.2.2.2.2.2.2.2.2.2.2.2.2.2.2.1
theorem dX11_by_56 : decode cX11_by 56 = .ok (.imul, 1) := gdX11_by_27.2.2.2.2.2.2.2.2.2.2.2.2.2.2.2
theorem gdX11_by_57 : (decode cX11_by 57 = .ok (.iload 6, 2)) ∧ (decode cX11_by 59 = .ok (.iadd, 1)) ∧ (decode cX11_by 60 = .ok (.laload, 1)) ∧ (decode cX11_by 61 = .ok (.lconst 0, 1)) ∧ (decode cX11_by 62 = .ok (.lcmp, 1)) ∧ (decode cX11_by 63 = .ok (.ifCond .ge 7, 3)) ∧ (decode cX11_by 66 = .ok (.ldc2_w 321, 3)) ∧ (decode cX11_by 69 = .ok (.lreturn, 1)) ∧ (decode cX11_by 70 = .ok (.aload_n 0, 1)) ∧ (decode cX11_by 71 = .ok (.getfield 60, 3)) ∧ (decode cX11_by 74 = .ok (.bipush 10, 2)) ∧ (decode cX11_by 76 = .ok (.iload_n 2, 1)) ∧ (decode cX11_by 77 = .ok (.iload 5, 2)) ∧ (decode cX11_by 79 = .ok (.iadd, 1)) ∧ (decode cX11_by 80 = .ok (.imul, 1)) ∧ (decode cX11_by 81 = .ok (.iload 6, 2)) := by decide +kernel
theorem dX11_by_57 : decode cX11_by 57 = .ok (.iload 6, 2) := gdX11_by_57.1
theorem dX11_by_59 : decode cX11_by 59 = .ok (.iadd, 1) := gdX11_by_57.2.1
theorem dX11_by_60 : decode cX11_by 60 = .ok (.laload, 1) := gdX11_by_57.2.2.1
theorem dX11_by_61 : decode cX11_by 61 = .ok (.lconst 0, 1) := gdX11_by_57.2.2.2.1
theorem dX11_by_62 : decode cX11_by 62 = .ok (.lcmp, 1) := gdX11_by_57.2.2.2.2.1
theorem dX11_by_63 : decode cX11_by 63 = .ok (.ifCond .ge 7, 3) := gdX11_by_57.2.2.2.2.2.1
theorem dX11_by_66 : decode cX11_by 66 = .ok (.ldc2_w 321, 3) := gdX11_by_57.2.2.2.2.2.2.1
theorem dX11_by_69 : decode cX11_by 69 = .ok (.lreturn, 1) := gdX11_by_57.2.2.2.2.2.2.2.1
theorem dX11_by_70 : decode cX11_by 70 = .ok (.aload_n 0, 1) := gdX11_by_57.2.2.2.2.2.2.2.2.1
theorem dX11_by_71 : decode cX11_by 71 = .ok (.getfield 60, 3) := gdX11_by_57.2.2.2.2.2.2.2.2.2.1
theorem dX11_by_74 : decode cX11_by 74 = .ok (.bipush 10, 2) := gdX11_by_57.2.2.2.2.2.2.2.2.2.2.1
theorem dX11_by_76 : decode cX11_by 76 = .ok (.iload_n 2, 1) := gdX11_by_57.2.2.2.2.2.2.2.2.2.2.2.1
theorem dX11_by_77 : decode cX11_by 77 = .ok (.iload 5, 2) := gdX11_by_57.2.2.2.2.2.2.2.2.2.2.2.2.1
theorem dX11_by_79 : decode cX11_by 79 = .ok (.iadd, 1) := gdX11_by_57.2.2.2.2.2.2.2.2.2.2.2.2.2.1
theorem dX11_by_80 : decode cX11_by 80 = .ok (.imul, 1) := gdX11_by_57.2.2.2.2.2.2.2.2.2.2.2.2.2.2.1
theorem dX11_by_81 : decode cX11_by 81 = .ok (.iload 6, 2) := gdX11_by_57.2.2.2.2.2.2.2.2.2.2.2.2.2.2.2
theorem gdX11_by_83 : (decode cX11_by 83 = .ok (.iadd, 1)) ∧ (decode cX11_by 84 = .ok (.laload, 1)) ∧ (decode cX11_by 85 = .ok (.iload 5, 2)) ∧ (decode cX11_by 87 = .ok (.i2l, 1)) ∧ (decode cX11_by 88 = .ok (.iload_n 3, 1)) ∧ (decode cX11_by 89 = .ok (.ifCond .ge 11, 3)) ∧ (decode cX11_by 92 = .ok (.aload_n 0, 1)) ∧ (decode cX11_by 93 = .ok (.iload_n 1, 1)) ∧ (decode cX11_by 94 = .ok (.invokevirtual 333, 3)) ∧ (decode cX11_by 97 = .ok (.goto 8, 3)) ∧ (decode cX11_by 100 = .ok (.aload_n 0, 1)) ∧ (decode cX11_by 101 = .ok (.iload_n 3, 1)) ∧ (decode cX11_by 102 = .ok (.invokevirtual 337, 3)) ∧ (decode cX11_by 105 = .ok (.lmul, 1)) ∧ (decode cX11_by 106 = .ok (.ladd, 1)) ∧ (decode cX11_by 107 = .ok (.lreturn, 1)) := by decide +kernel
theorem dX11_by_83 : decode cX11_by 83 = .ok (.iadd, 1) := gdX11_by_83.1
theorem dX11_by_84 : decode cX11_by 84 = .ok (.laload, 1) := gdX11_by_83.2.1
theorem dX11_by_85 : decode cX11_by 85 = .ok (.iload 5, 2) := gdX11_by_83.2.2.1
theorem dX11_by_87 : decode cX11_by 87 = .ok (.i2l, 1) := gdX11_by_83.2.2.2.1
theorem dX11_by_88 : decode cX11_by 88 = .ok (.iload_n 3, 1) := gdX11_by_83.2.2.2.2.1
theorem dX11_by_89 : decode cX11_by 89 = .ok (.ifCond .ge 11, 3) := gdX11_by_83.2.2.2.2.2.1
theorem dX11_by_92 : decode cX11_by 92 = .ok (.aload_n 0, 1) := gdX11_by_83.2.2.2.2.2.2.1
theorem dX11_by_93 : decode cX11_by 93 = .ok (.iload_n 1, 1) := gdX11_by_83.2.2.2.2.2.2.2.1
theorem dX11_by_94 : decode cX11_by 94 = .ok (.invokevirtual 333, 3) := gdX11_by_83.2.2.2.2.2.2.2.2.1
theorem dX11_by_97 : decode cX11_by 97 = .ok (.goto 8, 3) := gdX11_by_83.2.2.2.2.2.2.2.2.2.1
theorem dX11_by_100 : decode cX11_by 100 = .ok (.aload_n 0, 1) := gdX11_by_83.2.2.2.2.2.2.2.2.2.2.1
theorem dX11_by_101 : decode cX11_by 101 = .ok (.iload_n 3, 1) := gdX11_by_83.2.2.2.2.2.2.2.2.2.2.2.1
theorem dX11_by_102 : decode cX11_by 102 = .ok (.invokevirtual 337, 3) := gdX11_by_83.2.2.2.2.2.2.2.2.2.2.2.2.1
theorem dX11_by_105 : decode cX11_by 105 = .ok (.lmul, 1) := gdX11_by_83.2.2.2.2.2.2.2.2.2.2.2.2.2.1
theorem dX11_by_106 : decode cX11_by 106 = .ok (.ladd, 1) := gdX11_by_83.2.2.2.2.2.2.2.2.2.2.2.2.2.2.1
theorem dX11_by_107 : decode cX11_by 107 = .ok (.lreturn, 1) := gdX11_by_83.2.2.2.2.2.2.2.2.2.2.2.2.2.2.2
theorem gdX11_bestFrom_0 : (decode cX11_bestFrom 0 = .ok (.ldc2_w 321, 3)) ∧ (decode cX11_bestFrom 3 = .ok (.lstore 5, 2)) ∧ (decode cX11_bestFrom 5 = .ok (.iconst (-1), 1)) ∧ (decode cX11_bestFrom 6 = .ok (.istore 7, 2)) ∧ (decode cX11_bestFrom 8 = .ok (.iload 7, 2)) ∧ (decode cX11_bestFrom 10 = .ok (.aload_n 0, 1)) ∧ (decode cX11_bestFrom 11 = .ok (.getfield 45, 3)) ∧ (decode cX11_bestFrom 14 = .ok (.iconst 1, 1)) ∧ (decode cX11_bestFrom 15 = .ok (.iaload, 1)) ∧ (decode cX11_bestFrom 16 = .ok (.if_icmp .ge 44, 3)) ∧ (decode cX11_bestFrom 19 = .ok (.aload_n 0, 1)) ∧ (decode cX11_bestFrom 20 = .ok (.iload_n 1, 1)) ∧ (decode cX11_bestFrom 21 = .ok (.iload_n 2, 1)) ∧ (decode cX11_bestFrom 22 = .ok (.iload 7, 2)) ∧ (decode cX11_bestFrom 24 = .ok (.iload_n 3, 1)) ∧ (decode cX11_bestFrom 25 = .ok (.invokevirtual 369, 3)) := by decide +kernel
theorem dX11_bestFrom_0 : decode cX11_bestFrom 0 = .ok (.ldc2_w 321, 3) := gdX11_bestFrom_0.1
theorem dX11_bestFrom_3 : decode cX11_bestFrom 3 = .ok (.lstore 5, 2) := gdX11_bestFrom_0.2.1
theorem dX11_bestFrom_5 : decode cX11_bestFrom 5 = .ok (.iconst (-1), 1) := gdX11_bestFrom_0.2.2.1
theorem dX11_bestFrom_6 : decode cX11_bestFrom 6 = .ok (.istore 7, 2) := gdX11_bestFrom_0.2.2.2.1
theorem dX11_bestFrom_8 : decode cX11_bestFrom 8 = .ok (.iload 7, 2) := gdX11_bestFrom_0.2.2.2.2.1
theorem dX11_bestFrom_10 : decode cX11_bestFrom 10 = .ok (.aload_n 0, 1) := gdX11_bestFrom_0.2.2.2.2.2.1
theorem dX11_bestFrom_11 : decode cX11_bestFrom 11 = .ok (.getfield 45, 3) := gdX11_bestFrom_0.2.2.2.2.2.2.1
theorem dX11_bestFrom_14 : decode cX11_bestFrom 14 = .ok (.iconst 1, 1) := gdX11_bestFrom_0.2.2.2.2.2.2.2.1
theorem dX11_bestFrom_15 : decode cX11_bestFrom 15 = .ok (.iaload, 1) := gdX11_bestFrom_0.2.2.2.2.2.2.2.2.1
theorem dX11_bestFrom_16 : decode cX11_bestFrom 16 = .ok (.if_icmp .ge 44, 3) := gdX11_bestFrom_0.2.2.2.2.2.2.2.2.2.1
theorem dX11_bestFrom_19 : decode cX11_bestFrom 19 = .ok (.aload_n 0, 1) := gdX11_bestFrom_0.2.2.2.2.2.2.2.2.2.2.1
theorem dX11_bestFrom_20 : decode cX11_bestFrom 20 = .ok (.iload_n 1, 1) := gdX11_bestFrom_0.2.2.2.2.2.2.2.2.2.2.2.1
theorem dX11_bestFrom_21 : decode cX11_bestFrom 21 = .ok (.iload_n 2, 1) := gdX11_bestFrom_0.2.2.2.2.2.2.2.2.2.2.2.2.1
theorem dX11_bestFrom_22 : decode cX11_bestFrom 22 = .ok (.iload 7, 2) := gdX11_bestFrom_0.2.2.2.2.2.2.2.2.2.2.2.2.2.1
theorem dX11_bestFrom_24 : decode cX11_bestFrom 24 = .ok (.iload_n 3, 1) := gdX11_bestFrom_0.2.2.2.2.2.2.2.2.2.2.2.2.2.2.1
theorem dX11_bestFrom_25 : decode cX11_bestFrom 25 = .ok (.invokevirtual 369, 3) := gdX11_bestFrom_0.2.2.2.2.2.2.2.2.2.2.2.2.2.2.2
theorem gdX11_bestFrom_28 : (decode cX11_bestFrom 28 = .ok (.lstore 8, 2)) ∧ (decode cX11_bestFrom 30 = .ok (.lload 8, 2)) ∧ (decode cX11_bestFrom 32 = .ok (.lconst 0, 1)) ∧ (decode cX11_bestFrom 33 = .ok (.lcmp, 1)) ∧ (decode cX11_bestFrom 34 = .ok (.ifCond .lt 20, 3)) ∧ (decode cX11_bestFrom 37 = .ok (.aload_n 0, 1)) ∧ (decode cX11_bestFrom 38 = .ok (.lload 8, 2)) ∧ (decode cX11_bestFrom 40 = .ok (.lload 5, 2)) ∧ (decode cX11_bestFrom 42 = .ok (.iload 4, 2)) ∧ (decode cX11_bestFrom 44 = .ok (.invokevirtual 373, 3)) ∧ (decode cX11_bestFrom 47 = .ok (.ifCond .eq 7, 3)) ∧ (decode cX11_bestFrom 50 = .ok (.lload 8, 2)) ∧ (decode cX11_bestFrom 52 = .ok (.lstore 5, 2)) ∧ (decode cX11_bestFrom 54 = .ok (.iinc 7 1, 3)) ∧ (decode cX11_bestFrom 57 = .ok (.goto (-49), 3)) ∧ (decode cX11_bestFrom 60 = .ok (.lload 5, 2)) := by decide +kernel
theorem dX11_bestFrom_28 : decode cX11_bestFrom 28 = .ok (.lstore 8, 2) := gdX11_bestFrom_28.1
theorem dX11_bestFrom_30 : decode cX11_bestFrom 30 = .ok (.lload 8, 2) := gdX11_bestFrom_28.2.1
theorem dX11_bestFrom_32 : decode cX11_bestFrom 32 = .ok (.lconst 0, 1) := gdX11_bestFrom_28.2.2.1
theorem dX11_bestFrom_33 : decode cX11_bestFrom 33 = .ok (.lcmp, 1) := gdX11_bestFrom_28.2.2.2.1
theorem dX11_bestFrom_34 : decode cX11_bestFrom 34 = .ok (.ifCond .lt 20, 3) := gdX11_bestFrom_28.2.2.2.2.1
theorem dX11_bestFrom_37 : decode cX11_bestFrom 37 = .ok (.aload_n 0, 1) := gdX11_bestFrom_28.2.2.2.2.2.1
theorem dX11_bestFrom_38 : decode cX11_bestFrom 38 = .ok (.lload 8, 2) := gdX11_bestFrom_28.2.2.2.2.2.2.1
theorem dX11_bestFrom_40 : decode cX11_bestFrom 40 = .ok (.lload 5, 2) := gdX11_bestFrom_28.2.2.2.2.2.2.2.1
theorem dX11_bestFrom_42 : decode cX11_bestFrom 42 = .ok (.iload 4, 2) := gdX11_bestFrom_28.2.2.2.2.2.2.2.2.1
theorem dX11_bestFrom_44 : decode cX11_bestFrom 44 = .ok (.invokevirtual 373, 3) := gdX11_bestFrom_28.2.2.2.2.2.2.2.2.2.1
theorem dX11_bestFrom_47 : decode cX11_bestFrom 47 = .ok (.ifCond .eq 7, 3) := gdX11_bestFrom_28.2.2.2.2.2.2.2.2.2.2.1
theorem dX11_bestFrom_50 : decode cX11_bestFrom 50 = .ok (.lload 8, 2) := gdX11_bestFrom_28.2.2.2.2.2.2.2.2.2.2.2.1
theorem dX11_bestFrom_52 : decode cX11_bestFrom 52 = .ok (.lstore 5, 2) := gdX11_bestFrom_28.2.2.2.2.2.2.2.2.2.2.2.2.1
theorem dX11_bestFrom_54 : decode cX11_bestFrom 54 = .ok (.iinc 7 1, 3) := gdX11_bestFrom_28.2.2.2.2.2.2.2.2.2.2.2.2.2.1
theorem dX11_bestFrom_57 : decode cX11_bestFrom 57 = .ok (.goto (-49), 3) := gdX11_bestFrom_28.2.2.2.2.2.2.2.2.2.2.2.2.2.2.1
theorem dX11_bestFrom_60 : decode cX11_bestFrom 60 = .ok (.lload 5, 2) := gdX11_bestFrom_28.2.2.2.2.2.2.2.2.2.2.2.2.2.2.2
theorem dX11_bestFrom_62 : decode cX11_bestFrom 62 = .ok (.lreturn, 1) := by decide +kernel
theorem gdX11_plan_0 : (decode cX11_plan 0 = .ok (.aload_n 0, 1)) ∧ (decode cX11_plan 1 = .ok (.iload_n 1, 1)) ∧ (decode cX11_plan 2 = .ok (.invokevirtual 316, 3)) ∧ (decode cX11_plan 5 = .ok (.ifCond .eq 45, 3)) ∧ (decode cX11_plan 8 = .ok (.aload_n 0, 1)) ∧ (decode cX11_plan 9 = .ok (.iload_n 1, 1)) ∧ (decode cX11_plan 10 = .ok (.iconst 0, 1)) ∧ (decode cX11_plan 11 = .ok (.invokevirtual 296, 3)) ∧ (decode cX11_plan 14 = .ok (.ifCond .lt 36, 3)) ∧ (decode cX11_plan 17 = .ok (.aload_n 0, 1)) ∧ (decode cX11_plan 18 = .ok (.iload_n 2, 1)) ∧ (decode cX11_plan 19 = .ok (.invokevirtual 299, 3)) ∧ (decode cX11_plan 22 = .ok (.ifCond .eq 28, 3)) ∧ (decode cX11_plan 25 = .ok (.iload_n 3, 1)) ∧ (decode cX11_plan 26 = .ok (.i2l, 1)) ∧ (decode cX11_plan 27 = .ok (.lconst 0, 1)) := by decide +kernel
theorem dX11_plan_0 : decode cX11_plan 0 = .ok (.aload_n 0, 1) := gdX11_plan_0.1
theorem dX11_plan_1 : decode cX11_plan 1 = .ok (.iload_n 1, 1) := gdX11_plan_0.2.1
theorem dX11_plan_2 : decode cX11_plan 2 = .ok (.invokevirtual 316, 3) := gdX11_plan_0.2.2.1
theorem dX11_plan_5 : decode cX11_plan 5 = .ok (.ifCond .eq 45, 3) := gdX11_plan_0.2.2.2.1
theorem dX11_plan_8 : decode cX11_plan 8 = .ok (.aload_n 0, 1) := gdX11_plan_0.2.2.2.2.1
theorem dX11_plan_9 : decode cX11_plan 9 = .ok (.iload_n 1, 1) := gdX11_plan_0.2.2.2.2.2.1
theorem dX11_plan_10 : decode cX11_plan 10 = .ok (.iconst 0, 1) := gdX11_plan_0.2.2.2.2.2.2.1
theorem dX11_plan_11 : decode cX11_plan 11 = .ok (.invokevirtual 296, 3) := gdX11_plan_0.2.2.2.2.2.2.2.1
theorem dX11_plan_14 : decode cX11_plan 14 = .ok (.ifCond .lt 36, 3) := gdX11_plan_0.2.2.2.2.2.2.2.2.1
theorem dX11_plan_17 : decode cX11_plan 17 = .ok (.aload_n 0, 1) := gdX11_plan_0.2.2.2.2.2.2.2.2.2.1
theorem dX11_plan_18 : decode cX11_plan 18 = .ok (.iload_n 2, 1) := gdX11_plan_0.2.2.2.2.2.2.2.2.2.2.1
theorem dX11_plan_19 : decode cX11_plan 19 = .ok (.invokevirtual 299, 3) := gdX11_plan_0.2.2.2.2.2.2.2.2.2.2.2.1
theorem dX11_plan_22 : decode cX11_plan 22 = .ok (.ifCond .eq 28, 3) := gdX11_plan_0.2.2.2.2.2.2.2.2.2.2.2.2.1
theorem dX11_plan_25 : decode cX11_plan 25 = .ok (.iload_n 3, 1) := gdX11_plan_0.2.2.2.2.2.2.2.2.2.2.2.2.2.1
theorem dX11_plan_26 : decode cX11_plan 26 = .ok (.i2l, 1) := gdX11_plan_0.2.2.2.2.2.2.2.2.2.2.2.2.2.2.1
theorem dX11_plan_27 : decode cX11_plan 27 = .ok (.lconst 0, 1) := gdX11_plan_0.2.2.2.2.2.2.2.2.2.2.2.2.2.2.2
theorem gdX11_plan_28 : (decode cX11_plan 28 = .ok (.ldc2_w 377, 3)) ∧ (decode cX11_plan 31 = .ok (.invokestatic 131, 3)) ∧ (decode cX11_plan 34 = .ok (.ifCond .eq 16, 3)) ∧ (decode cX11_plan 37 = .ok (.iload 5, 2)) ∧ (decode cX11_plan 39 = .ok (.i2l, 1)) ∧ (decode cX11_plan 40 = .ok (.lconst 0, 1)) ∧ (decode cX11_plan 41 = .ok (.ldc2_w 302, 3)) ∧ (decode cX11_plan 44 = .ok (.invokestatic 131, 3)) ∧ (decode cX11_plan 47 = .ok (.ifCond .ne 7, 3)) ∧ (decode cX11_plan 50 = .ok (.ldc2_w 321, 3)) ∧ (decode cX11_plan 53 = .ok (.lreturn, 1)) ∧ (decode cX11_plan 54 = .ok (.iconst 0, 1)) ∧ (decode cX11_plan 55 = .ok (.istore 6, 2)) ∧ (decode cX11_plan 57 = .ok (.iload 6, 2)) ∧ (decode cX11_plan 59 = .ok (.bipush 10, 2)) ∧ (decode cX11_plan 61 = .ok (.if_icmp .ge 34, 3)) := by decide +kernel
theorem dX11_plan_28 : decode cX11_plan 28 = .ok (.ldc2_w 377, 3) := gdX11_plan_28.1
theorem dX11_plan_31 : decode cX11_plan 31 = .ok (.invokestatic 131, 3) := gdX11_plan_28.2.1
theorem dX11_plan_34 : decode cX11_plan 34 = .ok (.ifCond .eq 16, 3) := gdX11_plan_28.2.2.1
theorem dX11_plan_37 : decode cX11_plan 37 = .ok (.iload 5, 2) := gdX11_plan_28.2.2.2.1
theorem dX11_plan_39 : decode cX11_plan 39 = .ok (.i2l, 1) := gdX11_plan_28.2.2.2.2.1
theorem dX11_plan_40 : decode cX11_plan 40 = .ok (.lconst 0, 1) := gdX11_plan_28.2.2.2.2.2.1
theorem dX11_plan_41 : decode cX11_plan 41 = .ok (.ldc2_w 302, 3) := gdX11_plan_28.2.2.2.2.2.2.1
theorem dX11_plan_44 : decode cX11_plan 44 = .ok (.invokestatic 131, 3) := gdX11_plan_28.2.2.2.2.2.2.2.1
theorem dX11_plan_47 : decode cX11_plan 47 = .ok (.ifCond .ne 7, 3) := gdX11_plan_28.2.2.2.2.2.2.2.2.1
theorem dX11_plan_50 : decode cX11_plan 50 = .ok (.ldc2_w 321, 3) := gdX11_plan_28.2.2.2.2.2.2.2.2.2.1
theorem dX11_plan_53 : decode cX11_plan 53 = .ok (.lreturn, 1) := gdX11_plan_28.2.2.2.2.2.2.2.2.2.2.1
theorem dX11_plan_54 : decode cX11_plan 54 = .ok (.iconst 0, 1) := gdX11_plan_28.2.2.2.2.2.2.2.2.2.2.2.1
theorem dX11_plan_55 : decode cX11_plan 55 = .ok (.istore 6, 2) := gdX11_plan_28.2.2.2.2.2.2.2.2.2.2.2.2.1
theorem dX11_plan_57 : decode cX11_plan 57 = .ok (.iload 6, 2) := gdX11_plan_28.2.2.2.2.2.2.2.2.2.2.2.2.2.1
theorem dX11_plan_59 : decode cX11_plan 59 = .ok (.bipush 10, 2) := gdX11_plan_28.2.2.2.2.2.2.2.2.2.2.2.2.2.2.1
theorem dX11_plan_61 : decode cX11_plan 61 = .ok (.if_icmp .ge 34, 3) := gdX11_plan_28.2.2.2.2.2.2.2.2.2.2.2.2.2.2.2
theorem gdX11_plan_64 : (decode cX11_plan 64 = .ok (.aload_n 0, 1)) ∧ (decode cX11_plan 65 = .ok (.getfield 60, 3)) ∧ (decode cX11_plan 68 = .ok (.bipush 10, 2)) ∧ (decode cX11_plan 70 = .ok (.iload_n 3, 1)) ∧ (decode cX11_plan 71 = .ok (.imul, 1)) ∧ (decode cX11_plan 72 = .ok (.iload 6, 2)) ∧ (decode cX11_plan 74 = .ok (.iadd, 1)) ∧ (decode cX11_plan 75 = .ok (.iload 6, 2)) ∧ (decode cX11_plan 77 = .ok (.iload_n 2, 1)) ∧ (decode cX11_plan 78 = .ok (.if_icmp .ne 7, 3)) ∧ (decode cX11_plan 81 = .ok (.lconst 0, 1)) ∧ (decode cX11_plan 82 = .ok (.goto 6, 3)) ∧ (decode cX11_plan 85 = .ok (.ldc2_w 321, 3)) ∧ (decode cX11_plan 88 = .ok (.lastore, 1)) ∧ (decode cX11_plan 89 = .ok (.iinc 6 1, 3)) ∧ (decode cX11_plan 92 = .ok (.goto (-35), 3)) := by decide +kernel
theorem dX11_plan_64 : decode cX11_plan 64 = .ok (.aload_n 0, 1) := gdX11_plan_64.1
theorem dX11_plan_65 : decode cX11_plan 65 = .ok (.getfield 60, 3) := gdX11_plan_64.2.1
theorem dX11_plan_68 : decode cX11_plan 68 = .ok (.bipush 10, 2) := gdX11_plan_64.2.2.1
theorem dX11_plan_70 : decode cX11_plan 70 = .ok (.iload_n 3, 1) := gdX11_plan_64.2.2.2.1
theorem dX11_plan_71 : decode cX11_plan 71 = .ok (.imul, 1) := gdX11_plan_64.2.2.2.2.1
theorem dX11_plan_72 : decode cX11_plan 72 = .ok (.iload 6, 2) := gdX11_plan_64.2.2.2.2.2.1
theorem dX11_plan_74 : decode cX11_plan 74 = .ok (.iadd, 1) := gdX11_plan_64.2.2.2.2.2.2.1
theorem dX11_plan_75 : decode cX11_plan 75 = .ok (.iload 6, 2) := gdX11_plan_64.2.2.2.2.2.2.2.1
theorem dX11_plan_77 : decode cX11_plan 77 = .ok (.iload_n 2, 1) := gdX11_plan_64.2.2.2.2.2.2.2.2.1
theorem dX11_plan_78 : decode cX11_plan 78 = .ok (.if_icmp .ne 7, 3) := gdX11_plan_64.2.2.2.2.2.2.2.2.2.1
theorem dX11_plan_81 : decode cX11_plan 81 = .ok (.lconst 0, 1) := gdX11_plan_64.2.2.2.2.2.2.2.2.2.2.1
theorem dX11_plan_82 : decode cX11_plan 82 = .ok (.goto 6, 3) := gdX11_plan_64.2.2.2.2.2.2.2.2.2.2.2.1
theorem dX11_plan_85 : decode cX11_plan 85 = .ok (.ldc2_w 321, 3) := gdX11_plan_64.2.2.2.2.2.2.2.2.2.2.2.2.1
theorem dX11_plan_88 : decode cX11_plan 88 = .ok (.lastore, 1) := gdX11_plan_64.2.2.2.2.2.2.2.2.2.2.2.2.2.1
theorem dX11_plan_89 : decode cX11_plan 89 = .ok (.iinc 6 1, 3) := gdX11_plan_64.2.2.2.2.2.2.2.2.2.2.2.2.2.2.1
theorem dX11_plan_92 : decode cX11_plan 92 = .ok (.goto (-35), 3) := gdX11_plan_64.2.2.2.2.2.2.2.2.2.2.2.2.2.2.2
theorem gdX11_plan_95 : (decode cX11_plan 95 = .ok (.iload_n 3, 1)) ∧ (decode cX11_plan 96 = .ok (.iconst 1, 1)) ∧ (decode cX11_plan 97 = .ok (.isub, 1)) ∧ (decode cX11_plan 98 = .ok (.istore 6, 2)) ∧ (decode cX11_plan 100 = .ok (.iload 6, 2)) ∧ (decode cX11_plan 102 = .ok (.ifCond .lt 53, 3)) ∧ (decode cX11_plan 105 = .ok (.iconst 0, 1)) ∧ (decode cX11_plan 106 = .ok (.istore 7, 2)) ∧ (decode cX11_plan 108 = .ok (.iload 7, 2)) ∧ (decode cX11_plan 110 = .ok (.aload_n 0, 1)) ∧ (decode cX11_plan 111 = .ok (.getfield 45, 3)) ∧ (decode cX11_plan 114 = .ok (.iconst 0, 1)) ∧ (decode cX11_plan 115 = .ok (.iaload, 1)) ∧ (decode cX11_plan 116 = .ok (.if_icmp .ge 33, 3)) ∧ (decode cX11_plan 119 = .ok (.aload_n 0, 1)) ∧ (decode cX11_plan 120 = .ok (.getfield 60, 3)) := by decide +kernel
theorem dX11_plan_95 : decode cX11_plan 95 = .ok (.iload_n 3, 1) := gdX11_plan_95.1
theorem dX11_plan_96 : decode cX11_plan 96 = .ok (.iconst 1, 1) := gdX11_plan_95.2.1
theorem dX11_plan_97 : decode cX11_plan 97 = .ok (.isub, 1) := gdX11_plan_95.2.2.1
theorem dX11_plan_98 : decode cX11_plan 98 = .ok (.istore 6, 2) := gdX11_plan_95.2.2.2.1
theorem dX11_plan_100 : decode cX11_plan 100 = .ok (.iload 6, 2) := gdX11_plan_95.2.2.2.2.1
theorem dX11_plan_102 : decode cX11_plan 102 = .ok (.ifCond .lt 53, 3) := gdX11_plan_95.2.2.2.2.2.1
theorem dX11_plan_105 : decode cX11_plan 105 = .ok (.iconst 0, 1) := gdX11_plan_95.2.2.2.2.2.2.1
theorem dX11_plan_106 : decode cX11_plan 106 = .ok (.istore 7, 2) := gdX11_plan_95.2.2.2.2.2.2.2.1
theorem dX11_plan_108 : decode cX11_plan 108 = .ok (.iload 7, 2) := gdX11_plan_95.2.2.2.2.2.2.2.2.1
theorem dX11_plan_110 : decode cX11_plan 110 = .ok (.aload_n 0, 1) := gdX11_plan_95.2.2.2.2.2.2.2.2.2.1
theorem dX11_plan_111 : decode cX11_plan 111 = .ok (.getfield 45, 3) := gdX11_plan_95.2.2.2.2.2.2.2.2.2.2.1
theorem dX11_plan_114 : decode cX11_plan 114 = .ok (.iconst 0, 1) := gdX11_plan_95.2.2.2.2.2.2.2.2.2.2.2.1
theorem dX11_plan_115 : decode cX11_plan 115 = .ok (.iaload, 1) := gdX11_plan_95.2.2.2.2.2.2.2.2.2.2.2.2.1
theorem dX11_plan_116 : decode cX11_plan 116 = .ok (.if_icmp .ge 33, 3) := gdX11_plan_95.2.2.2.2.2.2.2.2.2.2.2.2.2.1
theorem dX11_plan_119 : decode cX11_plan 119 = .ok (.aload_n 0, 1) := gdX11_plan_95.2.2.2.2.2.2.2.2.2.2.2.2.2.2.1
theorem dX11_plan_120 : decode cX11_plan 120 = .ok (.getfield 60, 3) := gdX11_plan_95.2.2.2.2.2.2.2.2.2.2.2.2.2.2.2
theorem gdX11_plan_123 : (decode cX11_plan 123 = .ok (.bipush 10, 2)) ∧ (decode cX11_plan 125 = .ok (.iload 6, 2)) ∧ (decode cX11_plan 127 = .ok (.imul, 1)) ∧ (decode cX11_plan 128 = .ok (.iload 7, 2)) ∧ (decode cX11_plan 130 = .ok (.iadd, 1)) ∧ (decode cX11_plan 131 = .ok (.aload_n 0, 1)) ∧ (decode cX11_plan 132 = .ok (.iload 7, 2)) ∧ (decode cX11_plan 134 = .ok (.iload 6, 2)) ∧ (decode cX11_plan 136 = .ok (.iload_n 3, 1)) ∧ (decode cX11_plan 137 = .ok (.iload 4, 2)) ∧ (decode cX11_plan 139 = .ok (.invokevirtual 379, 3)) ∧ (decode cX11_plan 142 = .ok (.lastore, 1)) ∧ (decode cX11_plan 143 = .ok (.iinc 7 1, 3)) ∧ (decode cX11_plan 146 = .ok (.goto (-38), 3)) ∧ (decode cX11_plan 149 = .ok (.iinc 6 (-1), 3)) ∧ (decode cX11_plan 152 = .ok (.goto (-52), 3)) := by decide +kernel
theorem dX11_plan_123 : decode cX11_plan 123 = .ok (.bipush 10, 2) := gdX11_plan_123.1
theorem dX11_plan_125 : decode cX11_plan 125 = .ok (.iload 6, 2) := gdX11_plan_123.2.1
theorem dX11_plan_127 : decode cX11_plan 127 = .ok (.imul, 1) := gdX11_plan_123.2.2.1
theorem dX11_plan_128 : decode cX11_plan 128 = .ok (.iload 7, 2) := gdX11_plan_123.2.2.2.1
theorem dX11_plan_130 : decode cX11_plan 130 = .ok (.iadd, 1) := gdX11_plan_123.2.2.2.2.1
theorem dX11_plan_131 : decode cX11_plan 131 = .ok (.aload_n 0, 1) := gdX11_plan_123.2.2.2.2.2.1
theorem dX11_plan_132 : decode cX11_plan 132 = .ok (.iload 7, 2) := gdX11_plan_123.2.2.2.2.2.2.1
theorem dX11_plan_134 : decode cX11_plan 134 = .ok (.iload 6, 2) := gdX11_plan_123.2.2.2.2.2.2.2.1
theorem dX11_plan_136 : decode cX11_plan 136 = .ok (.iload_n 3, 1) := gdX11_plan_123.2.2.2.2.2.2.2.2.1
theorem dX11_plan_137 : decode cX11_plan 137 = .ok (.iload 4, 2) := gdX11_plan_123.2.2.2.2.2.2.2.2.2.1
theorem dX11_plan_139 : decode cX11_plan 139 = .ok (.invokevirtual 379, 3) := gdX11_plan_123.2.2.2.2.2.2.2.2.2.2.1
theorem dX11_plan_142 : decode cX11_plan 142 = .ok (.lastore, 1) := gdX11_plan_123.2.2.2.2.2.2.2.2.2.2.2.1
theorem dX11_plan_143 : decode cX11_plan 143 = .ok (.iinc 7 1, 3) := gdX11_plan_123.2.2.2.2.2.2.2.2.2.2.2.2.1
theorem dX11_plan_146 : decode cX11_plan 146 = .ok (.goto (-38), 3) := gdX11_plan_123.2.2.2.2.2.2.2.2.2.2.2.2.2.1
theorem dX11_plan_149 : decode cX11_plan 149 = .ok (.iinc 6 (-1), 3) := gdX11_plan_123.2.2.2.2.2.2.2.2.2.2.2.2.2.2.1
theorem dX11_plan_152 : decode cX11_plan 152 = .ok (.goto (-52), 3) := gdX11_plan_123.2.2.2.2.2.2.2.2.2.2.2.2.2.2.2
theorem gdX11_plan_155 : (decode cX11_plan 155 = .ok (.aload_n 0, 1)) ∧ (decode cX11_plan 156 = .ok (.iload_n 1, 1)) ∧ (decode cX11_plan 157 = .ok (.iconst 0, 1)) ∧ (decode cX11_plan 158 = .ok (.invokevirtual 296, 3)) ∧ (decode cX11_plan 161 = .ok (.istore 6, 2)) ∧ (decode cX11_plan 163 = .ok (.aload_n 0, 1)) ∧ (decode cX11_plan 164 = .ok (.getfield 60, 3)) ∧ (decode cX11_plan 167 = .ok (.iload 6, 2)) ∧ (decode cX11_plan 169 = .ok (.laload, 1)) ∧ (decode cX11_plan 170 = .ok (.lstore 7, 2)) ∧ (decode cX11_plan 172 = .ok (.lload 7, 2)) ∧ (decode cX11_plan 174 = .ok (.lconst 0, 1)) ∧ (decode cX11_plan 175 = .ok (.lcmp, 1)) ∧ (decode cX11_plan 176 = .ok (.ifCond .ge 7, 3)) ∧ (decode cX11_plan 179 = .ok (.ldc2_w 360, 3)) ∧ (decode cX11_plan 182 = .ok (.lreturn, 1)) := by decide +kernel
theorem dX11_plan_155 : decode cX11_plan 155 = .ok (.aload_n 0, 1) := gdX11_plan_155.1
theorem dX11_plan_156 : decode cX11_plan 156 = .ok (.iload_n 1, 1) := gdX11_plan_155.2.1
theorem dX11_plan_157 : decode cX11_plan 157 = .ok (.iconst 0, 1) := gdX11_plan_155.2.2.1
theorem dX11_plan_158 : decode cX11_plan 158 = .ok (.invokevirtual 296, 3) := gdX11_plan_155.2.2.2.1
theorem dX11_plan_161 : decode cX11_plan 161 = .ok (.istore 6, 2) := gdX11_plan_155.2.2.2.2.1
theorem dX11_plan_163 : decode cX11_plan 163 = .ok (.aload_n 0, 1) := gdX11_plan_155.2.2.2.2.2.1
theorem dX11_plan_164 : decode cX11_plan 164 = .ok (.getfield 60, 3) := gdX11_plan_155.2.2.2.2.2.2.1
theorem dX11_plan_167 : decode cX11_plan 167 = .ok (.iload 6, 2) := gdX11_plan_155.2.2.2.2.2.2.2.1
theorem dX11_plan_169 : decode cX11_plan 169 = .ok (.laload, 1) := gdX11_plan_155.2.2.2.2.2.2.2.2.1
theorem dX11_plan_170 : decode cX11_plan 170 = .ok (.lstore 7, 2) := gdX11_plan_155.2.2.2.2.2.2.2.2.2.1
theorem dX11_plan_172 : decode cX11_plan 172 = .ok (.lload 7, 2) := gdX11_plan_155.2.2.2.2.2.2.2.2.2.2.1
theorem dX11_plan_174 : decode cX11_plan 174 = .ok (.lconst 0, 1) := gdX11_plan_155.2.2.2.2.2.2.2.2.2.2.2.1
theorem dX11_plan_175 : decode cX11_plan 175 = .ok (.lcmp, 1) := gdX11_plan_155.2.2.2.2.2.2.2.2.2.2.2.2.1
theorem dX11_plan_176 : decode cX11_plan 176 = .ok (.ifCond .ge 7, 3) := gdX11_plan_155.2.2.2.2.2.2.2.2.2.2.2.2.2.1
theorem dX11_plan_179 : decode cX11_plan 179 = .ok (.ldc2_w 360, 3) := gdX11_plan_155.2.2.2.2.2.2.2.2.2.2.2.2.2.2.1
theorem dX11_plan_182 : decode cX11_plan 182 = .ok (.lreturn, 1) := gdX11_plan_155.2.2.2.2.2.2.2.2.2.2.2.2.2.2.2
theorem gdX11_plan_183 : (decode cX11_plan 183 = .ok (.iload 5, 2)) ∧ (decode cX11_plan 185 = .ok (.iconst 2, 1)) ∧ (decode cX11_plan 186 = .ok (.if_icmp .ge 21, 3)) ∧ (decode cX11_plan 189 = .ok (.aload_n 0, 1)) ∧ (decode cX11_plan 190 = .ok (.getfield 48, 3)) ∧ (decode cX11_plan 193 = .ok (.iload_n 1, 1)) ∧ (decode cX11_plan 194 = .ok (.laload, 1)) ∧ (decode cX11_plan 195 = .ok (.lload 7, 2)) ∧ (decode cX11_plan 197 = .ok (.ladd, 1)) ∧ (decode cX11_plan 198 = .ok (.ldc2_w 281, 3)) ∧ (decode cX11_plan 201 = .ok (.iload 5, 2)) ∧ (decode cX11_plan 203 = .ok (.invokestatic 307, 3)) ∧ (decode cX11_plan 206 = .ok (.lreturn, 1)) ∧ (decode cX11_plan 207 = .ok (.iload_n 3, 1)) ∧ (decode cX11_plan 208 = .ok (.ifCond .ne 7, 3)) ∧ (decode cX11_plan 211 = .ok (.ldc2_w 383, 3)) := by decide +kernel
theorem dX11_plan_183 : decode cX11_plan 183 = .ok (.iload 5, 2) := gdX11_plan_183.1
theorem dX11_plan_185 : decode cX11_plan 185 = .ok (.iconst 2, 1) := gdX11_plan_183.2.1
theorem dX11_plan_186 : decode cX11_plan 186 = .ok (.if_icmp .ge 21, 3) := gdX11_plan_183.2.2.1
theorem dX11_plan_189 : decode cX11_plan 189 = .ok (.aload_n 0, 1) := gdX11_plan_183.2.2.2.1
theorem dX11_plan_190 : decode cX11_plan 190 = .ok (.getfield 48, 3) := gdX11_plan_183.2.2.2.2.1
theorem dX11_plan_193 : decode cX11_plan 193 = .ok (.iload_n 1, 1) := gdX11_plan_183.2.2.2.2.2.1
theorem dX11_plan_194 : decode cX11_plan 194 = .ok (.laload, 1) := gdX11_plan_183.2.2.2.2.2.2.1
theorem dX11_plan_195 : decode cX11_plan 195 = .ok (.lload 7, 2) := gdX11_plan_183.2.2.2.2.2.2.2.1
theorem dX11_plan_197 : decode cX11_plan 197 = .ok (.ladd, 1) := gdX11_plan_183.2.2.2.2.2.2.2.2.1
theorem dX11_plan_198 : decode cX11_plan 198 = .ok (.ldc2_w 281, 3) := gdX11_plan_183.2.2.2.2.2.2.2.2.2.1
theorem dX11_plan_201 : decode cX11_plan 201 = .ok (.iload 5, 2) := gdX11_plan_183.2.2.2.2.2.2.2.2.2.2.1
theorem dX11_plan_203 : decode cX11_plan 203 = .ok (.invokestatic 307, 3) := gdX11_plan_183.2.2.2.2.2.2.2.2.2.2.2.1
theorem dX11_plan_206 : decode cX11_plan 206 = .ok (.lreturn, 1) := gdX11_plan_183.2.2.2.2.2.2.2.2.2.2.2.2.1
theorem dX11_plan_207 : decode cX11_plan 207 = .ok (.iload_n 3, 1) := gdX11_plan_183.2.2.2.2.2.2.2.2.2.2.2.2.2.1
theorem dX11_plan_208 : decode cX11_plan 208 = .ok (.ifCond .ne 7, 3) := gdX11_plan_183.2.2.2.2.2.2.2.2.2.2.2.2.2.2.1
theorem dX11_plan_211 : decode cX11_plan 211 = .ok (.ldc2_w 383, 3) := gdX11_plan_183.2.2.2.2.2.2.2.2.2.2.2.2.2.2.2
theorem gdX11_plan_214 : (decode cX11_plan 214 = .ok (.lreturn, 1)) ∧ (decode cX11_plan 215 = .ok (.iconst (-1), 1)) ∧ (decode cX11_plan 216 = .ok (.istore 9, 2)) ∧ (decode cX11_plan 218 = .ok (.aload_n 0, 1)) ∧ (decode cX11_plan 219 = .ok (.iload 6, 2)) ∧ (decode cX11_plan 221 = .ok (.iconst 0, 1)) ∧ (decode cX11_plan 222 = .ok (.iload 9, 2)) ∧ (decode cX11_plan 224 = .ok (.iload_n 3, 1)) ∧ (decode cX11_plan 225 = .ok (.invokevirtual 369, 3)) ∧ (decode cX11_plan 228 = .ok (.lload 7, 2)) ∧ (decode cX11_plan 230 = .ok (.lcmp, 1)) ∧ (decode cX11_plan 231 = .ok (.ifCond .eq 9, 3)) ∧ (decode cX11_plan 234 = .ok (.iinc 9 1, 3)) ∧ (decode cX11_plan 237 = .ok (.goto (-19), 3)) ∧ (decode cX11_plan 240 = .ok (.iload 9, 2)) ∧ (decode cX11_plan 242 = .ok (.ifCond .ge 9, 3)) := by decide +kernel
theorem dX11_plan_214 : decode cX11_plan 214 = .ok (.lreturn, 1) := gdX11_plan_214.1
theorem dX11_plan_215 : decode cX11_plan 215 = .ok (.iconst (-1), 1) := gdX11_plan_214.2.1
theorem dX11_plan_216 : decode cX11_plan 216 = .ok (.istore 9, 2) := gdX11_plan_214.2.2.1
theorem dX11_plan_218 : decode cX11_plan 218 = .ok (.aload_n 0, 1) := gdX11_plan_214.2.2.2.1
theorem dX11_plan_219 : decode cX11_plan 219 = .ok (.iload 6, 2) := gdX11_plan_214.2.2.2.2.1
theorem dX11_plan_221 : decode cX11_plan 221 = .ok (.iconst 0, 1) := gdX11_plan_214.2.2.2.2.2.1
theorem dX11_plan_222 : decode cX11_plan 222 = .ok (.iload 9, 2) := gdX11_plan_214.2.2.2.2.2.2.1
theorem dX11_plan_224 : decode cX11_plan 224 = .ok (.iload_n 3, 1) := gdX11_plan_214.2.2.2.2.2.2.2.1
theorem dX11_plan_225 : decode cX11_plan 225 = .ok (.invokevirtual 369, 3) := gdX11_plan_214.2.2.2.2.2.2.2.2.1
theorem dX11_plan_228 : decode cX11_plan 228 = .ok (.lload 7, 2) := gdX11_plan_214.2.2.2.2.2.2.2.2.2.1
theorem dX11_plan_230 : decode cX11_plan 230 = .ok (.lcmp, 1) := gdX11_plan_214.2.2.2.2.2.2.2.2.2.2.1
theorem dX11_plan_231 : decode cX11_plan 231 = .ok (.ifCond .eq 9, 3) := gdX11_plan_214.2.2.2.2.2.2.2.2.2.2.2.1
theorem dX11_plan_234 : decode cX11_plan 234 = .ok (.iinc 9 1, 3) := gdX11_plan_214.2.2.2.2.2.2.2.2.2.2.2.2.1
theorem dX11_plan_237 : decode cX11_plan 237 = .ok (.goto (-19), 3) := gdX11_plan_214.2.2.2.2.2.2.2.2.2.2.2.2.2.1
theorem dX11_plan_240 : decode cX11_plan 240 = .ok (.iload 9, 2) := gdX11_plan_214.2.2.2.2.2.2.2.2.2.2.2.2.2.2.1
theorem dX11_plan_242 : decode cX11_plan 242 = .ok (.ifCond .ge 9, 3) := gdX11_plan_214.2.2.2.2.2.2.2.2.2.2.2.2.2.2.2
theorem gdX11_plan_245 : (decode cX11_plan 245 = .ok (.ldc2_w 385, 3)) ∧ (decode cX11_plan 248 = .ok (.goto 6, 3)) ∧ (decode cX11_plan 251 = .ok (.iload 9, 2)) ∧ (decode cX11_plan 253 = .ok (.i2l, 1)) ∧ (decode cX11_plan 254 = .ok (.lreturn, 1)) := by decide +kernel
theorem dX11_plan_245 : decode cX11_plan 245 = .ok (.ldc2_w 385, 3) := gdX11_plan_245.1
theorem dX11_plan_248 : decode cX11_plan 248 = .ok (.goto 6, 3) := gdX11_plan_245.2.1
theorem dX11_plan_251 : decode cX11_plan 251 = .ok (.iload 9, 2) := gdX11_plan_245.2.2.1
theorem dX11_plan_253 : decode cX11_plan 253 = .ok (.i2l, 1) := gdX11_plan_245.2.2.2.1
theorem dX11_plan_254 : decode cX11_plan 254 = .ok (.lreturn, 1) := gdX11_plan_245.2.2.2.2
theorem gdX11_even_0 : (decode cX11_even 0 = .ok (.aload_n 0, 1)) ∧ (decode cX11_even 1 = .ok (.iload_n 1, 1)) ∧ (decode cX11_even 2 = .ok (.invokevirtual 316, 3)) ∧ (decode cX11_even 5 = .ok (.ifCond .eq 44, 3)) ∧ (decode cX11_even 8 = .ok (.aload_n 0, 1)) ∧ (decode cX11_even 9 = .ok (.iload_n 2, 1)) ∧ (decode cX11_even 10 = .ok (.invokevirtual 316, 3)) ∧ (decode cX11_even 13 = .ok (.ifCond .eq 36, 3)) ∧ (decode cX11_even 16 = .ok (.iload_n 1, 1)) ∧ (decode cX11_even 17 = .ok (.iload_n 2, 1)) ∧ (decode cX11_even 18 = .ok (.if_icmp .eq 31, 3)) ∧ (decode cX11_even 21 = .ok (.aload_n 0, 1)) ∧ (decode cX11_even 22 = .ok (.iload_n 3, 1)) ∧ (decode cX11_even 23 = .ok (.invokevirtual 299, 3)) ∧ (decode cX11_even 26 = .ok (.ifCond .eq 23, 3)) ∧ (decode cX11_even 29 = .ok (.aload_n 0, 1)) := by decide +kernel
theorem dX11_even_0 : decode cX11_even 0 = .ok (.aload_n 0, 1) := gdX11_even_0.1
theorem dX11_even_1 : decode cX11_even 1 = .ok (.iload_n 1, 1) := gdX11_even_0.2.1
theorem dX11_even_2 : decode cX11_even 2 = .ok (.invokevirtual 316, 3) := gdX11_even_0.2.2.1
theorem dX11_even_5 : decode cX11_even 5 = .ok (.ifCond .eq 44, 3) := gdX11_even_0.2.2.2.1
theorem dX11_even_8 : decode cX11_even 8 = .ok (.aload_n 0, 1) := gdX11_even_0.2.2.2.2.1
theorem dX11_even_9 : decode cX11_even 9 = .ok (.iload_n 2, 1) := gdX11_even_0.2.2.2.2.2.1
theorem dX11_even_10 : decode cX11_even 10 = .ok (.invokevirtual 316, 3) := gdX11_even_0.2.2.2.2.2.2.1
theorem dX11_even_13 : decode cX11_even 13 = .ok (.ifCond .eq 36, 3) := gdX11_even_0.2.2.2.2.2.2.2.1
theorem dX11_even_16 : decode cX11_even 16 = .ok (.iload_n 1, 1) := gdX11_even_0.2.2.2.2.2.2.2.2.1
theorem dX11_even_17 : decode cX11_even 17 = .ok (.iload_n 2, 1) := gdX11_even_0.2.2.2.2.2.2.2.2.2.1
theorem dX11_even_18 : decode cX11_even 18 = .ok (.if_icmp .eq 31, 3) := gdX11_even_0.2.2.2.2.2.2.2.2.2.2.1
theorem dX11_even_21 : decode cX11_even 21 = .ok (.aload_n 0, 1) := gdX11_even_0.2.2.2.2.2.2.2.2.2.2.2.1
theorem dX11_even_22 : decode cX11_even 22 = .ok (.iload_n 3, 1) := gdX11_even_0.2.2.2.2.2.2.2.2.2.2.2.2.1
theorem dX11_even_23 : decode cX11_even 23 = .ok (.invokevirtual 299, 3) := gdX11_even_0.2.2.2.2.2.2.2.2.2.2.2.2.2.1
theorem dX11_even_26 : decode cX11_even 26 = .ok (.ifCond .eq 23, 3) := gdX11_even_0.2.2.2.2.2.2.2.2.2.2.2.2.2.2.1
theorem dX11_even_29 : decode cX11_even 29 = .ok (.aload_n 0, 1) := gdX11_even_0.2.2.2.2.2.2.2.2.2.2.2.2.2.2.2
theorem gdX11_even_30 : (decode cX11_even 30 = .ok (.iload 4, 2)) ∧ (decode cX11_even 32 = .ok (.invokevirtual 299, 3)) ∧ (decode cX11_even 35 = .ok (.ifCond .eq 14, 3)) ∧ (decode cX11_even 38 = .ok (.iload 5, 2)) ∧ (decode cX11_even 40 = .ok (.i2l, 1)) ∧ (decode cX11_even 41 = .ok (.lconst 0, 1)) ∧ (decode cX11_even 42 = .ok (.lconst 1, 1)) ∧ (decode cX11_even 43 = .ok (.invokestatic 131, 3)) ∧ (decode cX11_even 46 = .ok (.ifCond .ne 7, 3)) ∧ (decode cX11_even 49 = .ok (.ldc2_w 321, 3)) ∧ (decode cX11_even 52 = .ok (.lreturn, 1)) ∧ (decode cX11_even 53 = .ok (.aload_n 0, 1)) ∧ (decode cX11_even 54 = .ok (.getfield 48, 3)) ∧ (decode cX11_even 57 = .ok (.iload_n 2, 1)) ∧ (decode cX11_even 58 = .ok (.laload, 1)) ∧ (decode cX11_even 59 = .ok (.aload_n 0, 1)) := by decide +kernel
theorem dX11_even_30 : decode cX11_even 30 = .ok (.iload 4, 2) := gdX11_even_30.1
theorem dX11_even_32 : decode cX11_even 32 = .ok (.invokevirtual 299, 3) := gdX11_even_30.2.1
theorem dX11_even_35 : decode cX11_even 35 = .ok (.ifCond .eq 14, 3) := gdX11_even_30.2.2.1
theorem dX11_even_38 : decode cX11_even 38 = .ok (.iload 5, 2) := gdX11_even_30.2.2.2.1
theorem dX11_even_40 : decode cX11_even 40 = .ok (.i2l, 1) := gdX11_even_30.2.2.2.2.1
theorem dX11_even_41 : decode cX11_even 41 = .ok (.lconst 0, 1) := gdX11_even_30.2.2.2.2.2.1
theorem dX11_even_42 : decode cX11_even 42 = .ok (.lconst 1, 1) := gdX11_even_30.2.2.2.2.2.2.1
theorem dX11_even_43 : decode cX11_even 43 = .ok (.invokestatic 131, 3) := gdX11_even_30.2.2.2.2.2.2.2.1
theorem dX11_even_46 : decode cX11_even 46 = .ok (.ifCond .ne 7, 3) := gdX11_even_30.2.2.2.2.2.2.2.2.1
theorem dX11_even_49 : decode cX11_even 49 = .ok (.ldc2_w 321, 3) := gdX11_even_30.2.2.2.2.2.2.2.2.2.1
theorem dX11_even_52 : decode cX11_even 52 = .ok (.lreturn, 1) := gdX11_even_30.2.2.2.2.2.2.2.2.2.2.1
theorem dX11_even_53 : decode cX11_even 53 = .ok (.aload_n 0, 1) := gdX11_even_30.2.2.2.2.2.2.2.2.2.2.2.1
theorem dX11_even_54 : decode cX11_even 54 = .ok (.getfield 48, 3) := gdX11_even_30.2.2.2.2.2.2.2.2.2.2.2.2.1
theorem dX11_even_57 : decode cX11_even 57 = .ok (.iload_n 2, 1) := gdX11_even_30.2.2.2.2.2.2.2.2.2.2.2.2.2.1
theorem dX11_even_58 : decode cX11_even 58 = .ok (.laload, 1) := gdX11_even_30.2.2.2.2.2.2.2.2.2.2.2.2.2.2.1
theorem dX11_even_59 : decode cX11_even 59 = .ok (.aload_n 0, 1) := gdX11_even_30.2.2.2.2.2.2.2.2.2.2.2.2.2.2.2
theorem gdX11_even_60 : (decode cX11_even 60 = .ok (.getfield 48, 3)) ∧ (decode cX11_even 63 = .ok (.iload_n 1, 1)) ∧ (decode cX11_even 64 = .ok (.laload, 1)) ∧ (decode cX11_even 65 = .ok (.lsub, 1)) ∧ (decode cX11_even 66 = .ok (.lstore 6, 2)) ∧ (decode cX11_even 68 = .ok (.aload_n 0, 1)) ∧ (decode cX11_even 69 = .ok (.iload_n 3, 1)) ∧ (decode cX11_even 70 = .ok (.invokevirtual 333, 3)) ∧ (decode cX11_even 73 = .ok (.aload_n 0, 1)) ∧ (decode cX11_even 74 = .ok (.iload 4, 2)) ∧ (decode cX11_even 76 = .ok (.invokevirtual 333, 3)) ∧ (decode cX11_even 79 = .ok (.lsub, 1)) ∧ (decode cX11_even 80 = .ok (.lstore 8, 2)) ∧ (decode cX11_even 82 = .ok (.lload 6, 2)) ∧ (decode cX11_even 84 = .ok (.lconst 0, 1)) ∧ (decode cX11_even 85 = .ok (.lcmp, 1)) := by decide +kernel
theorem dX11_even_60 : decode cX11_even 60 = .ok (.getfield 48, 3) := gdX11_even_60.1
theorem dX11_even_63 : decode cX11_even 63 = .ok (.iload_n 1, 1) := gdX11_even_60.2.1
theorem dX11_even_64 : decode cX11_even 64 = .ok (.laload, 1) := gdX11_even_60.2.2.1
theorem dX11_even_65 : decode cX11_even 65 = .ok (.lsub, 1) := gdX11_even_60.2.2.2.1
theorem dX11_even_66 : decode cX11_even 66 = .ok (.lstore 6, 2) := gdX11_even_60.2.2.2.2.1
theorem dX11_even_68 : decode cX11_even 68 = .ok (.aload_n 0, 1) := gdX11_even_60.2.2.2.2.2.1
theorem dX11_even_69 : decode cX11_even 69 = .ok (.iload_n 3, 1) := gdX11_even_60.2.2.2.2.2.2.1
theorem dX11_even_70 : decode cX11_even 70 = .ok (.invokevirtual 333, 3) := gdX11_even_60.2.2.2.2.2.2.2.1
theorem dX11_even_73 : decode cX11_even 73 = .ok (.aload_n 0, 1) := gdX11_even_60.2.2.2.2.2.2.2.2.1
theorem dX11_even_74 : decode cX11_even 74 = .ok (.iload 4, 2) := gdX11_even_60.2.2.2.2.2.2.2.2.2.1
theorem dX11_even_76 : decode cX11_even 76 = .ok (.invokevirtual 333, 3) := gdX11_even_60.2.2.2.2.2.2.2.2.2.2.1
theorem dX11_even_79 : decode cX11_even 79 = .ok (.lsub, 1) := gdX11_even_60.2.2.2.2.2.2.2.2.2.2.2.1
theorem dX11_even_80 : decode cX11_even 80 = .ok (.lstore 8, 2) := gdX11_even_60.2.2.2.2.2.2.2.2.2.2.2.2.1
theorem dX11_even_82 : decode cX11_even 82 = .ok (.lload 6, 2) := gdX11_even_60.2.2.2.2.2.2.2.2.2.2.2.2.2.1
theorem dX11_even_84 : decode cX11_even 84 = .ok (.lconst 0, 1) := gdX11_even_60.2.2.2.2.2.2.2.2.2.2.2.2.2.2.1
theorem dX11_even_85 : decode cX11_even 85 = .ok (.lcmp, 1) := gdX11_even_60.2.2.2.2.2.2.2.2.2.2.2.2.2.2.2
theorem gdX11_even_86 : (decode cX11_even 86 = .ok (.ifCond .ne 7, 3)) ∧ (decode cX11_even 89 = .ok (.iload 5, 2)) ∧ (decode cX11_even 91 = .ok (.i2l, 1)) ∧ (decode cX11_even 92 = .ok (.lreturn, 1)) ∧ (decode cX11_even 93 = .ok (.lload 8, 2)) ∧ (decode cX11_even 95 = .ok (.lconst 0, 1)) ∧ (decode cX11_even 96 = .ok (.lcmp, 1)) ∧ (decode cX11_even 97 = .ok (.ifCond .eq 30, 3)) ∧ (decode cX11_even 100 = .ok (.lload 6, 2)) ∧ (decode cX11_even 102 = .ok (.lconst 0, 1)) ∧ (decode cX11_even 103 = .ok (.lcmp, 1)) ∧ (decode cX11_even 104 = .ok (.ifCond .le 7, 3)) ∧ (decode cX11_even 107 = .ok (.iconst 1, 1)) ∧ (decode cX11_even 108 = .ok (.goto 4, 3)) ∧ (decode cX11_even 111 = .ok (.iconst 0, 1)) ∧ (decode cX11_even 112 = .ok (.lload 8, 2)) := by decide +kernel
theorem dX11_even_86 : decode cX11_even 86 = .ok (.ifCond .ne 7, 3) := gdX11_even_86.1
theorem dX11_even_89 : decode cX11_even 89 = .ok (.iload 5, 2) := gdX11_even_86.2.1
theorem dX11_even_91 : decode cX11_even 91 = .ok (.i2l, 1) := gdX11_even_86.2.2.1
theorem dX11_even_92 : decode cX11_even 92 = .ok (.lreturn, 1) := gdX11_even_86.2.2.2.1
theorem dX11_even_93 : decode cX11_even 93 = .ok (.lload 8, 2) := gdX11_even_86.2.2.2.2.1
theorem dX11_even_95 : decode cX11_even 95 = .ok (.lconst 0, 1) := gdX11_even_86.2.2.2.2.2.1
theorem dX11_even_96 : decode cX11_even 96 = .ok (.lcmp, 1) := gdX11_even_86.2.2.2.2.2.2.1
theorem dX11_even_97 : decode cX11_even 97 = .ok (.ifCond .eq 30, 3) := gdX11_even_86.2.2.2.2.2.2.2.1
theorem dX11_even_100 : decode cX11_even 100 = .ok (.lload 6, 2) := gdX11_even_86.2.2.2.2.2.2.2.2.1
theorem dX11_even_102 : decode cX11_even 102 = .ok (.lconst 0, 1) := gdX11_even_86.2.2.2.2.2.2.2.2.2.1
theorem dX11_even_103 : decode cX11_even 103 = .ok (.lcmp, 1) := gdX11_even_86.2.2.2.2.2.2.2.2.2.2.1
theorem dX11_even_104 : decode cX11_even 104 = .ok (.ifCond .le 7, 3) := gdX11_even_86.2.2.2.2.2.2.2.2.2.2.2.1
theorem dX11_even_107 : decode cX11_even 107 = .ok (.iconst 1, 1) := gdX11_even_86.2.2.2.2.2.2.2.2.2.2.2.2.1
theorem dX11_even_108 : decode cX11_even 108 = .ok (.goto 4, 3) := gdX11_even_86.2.2.2.2.2.2.2.2.2.2.2.2.2.1
theorem dX11_even_111 : decode cX11_even 111 = .ok (.iconst 0, 1) := gdX11_even_86.2.2.2.2.2.2.2.2.2.2.2.2.2.2.1
theorem dX11_even_112 : decode cX11_even 112 = .ok (.lload 8, 2) := gdX11_even_86.2.2.2.2.2.2.2.2.2.2.2.2.2.2.2
theorem gdX11_even_114 : (decode cX11_even 114 = .ok (.lconst 0, 1)) ∧ (decode cX11_even 115 = .ok (.lcmp, 1)) ∧ (decode cX11_even 116 = .ok (.ifCond .le 7, 3)) ∧ (decode cX11_even 119 = .ok (.iconst 1, 1)) ∧ (decode cX11_even 120 = .ok (.goto 4, 3)) ∧ (decode cX11_even 123 = .ok (.iconst 0, 1)) ∧ (decode cX11_even 124 = .ok (.if_icmp .eq 7, 3)) ∧ (decode cX11_even 127 = .ok (.ldc2_w 360, 3)) ∧ (decode cX11_even 130 = .ok (.lreturn, 1)) ∧ (decode cX11_even 131 = .ok (.lload 6, 2)) ∧ (decode cX11_even 133 = .ok (.lload 8, 2)) ∧ (decode cX11_even 135 = .ok (.invokestatic 88, 3)) ∧ (decode cX11_even 138 = .ok (.lstore 10, 2)) ∧ (decode cX11_even 140 = .ok (.iload 5, 2)) ∧ (decode cX11_even 142 = .ok (.ifCond .ne 8, 3)) ∧ (decode cX11_even 145 = .ok (.lload 6, 2)) := by decide +kernel
theorem dX11_even_114 : decode cX11_even 114 = .ok (.lconst 0, 1) := gdX11_even_114.1
theorem dX11_even_115 : decode cX11_even 115 = .ok (.lcmp, 1) := gdX11_even_114.2.1
theorem dX11_even_116 : decode cX11_even 116 = .ok (.ifCond .le 7, 3) := gdX11_even_114.2.2.1
theorem dX11_even_119 : decode cX11_even 119 = .ok (.iconst 1, 1) := gdX11_even_114.2.2.2.1
theorem dX11_even_120 : decode cX11_even 120 = .ok (.goto 4, 3) := gdX11_even_114.2.2.2.2.1
theorem dX11_even_123 : decode cX11_even 123 = .ok (.iconst 0, 1) := gdX11_even_114.2.2.2.2.2.1
theorem dX11_even_124 : decode cX11_even 124 = .ok (.if_icmp .eq 7, 3) := gdX11_even_114.2.2.2.2.2.2.1
theorem dX11_even_127 : decode cX11_even 127 = .ok (.ldc2_w 360, 3) := gdX11_even_114.2.2.2.2.2.2.2.1
theorem dX11_even_130 : decode cX11_even 130 = .ok (.lreturn, 1) := gdX11_even_114.2.2.2.2.2.2.2.2.1
theorem dX11_even_131 : decode cX11_even 131 = .ok (.lload 6, 2) := gdX11_even_114.2.2.2.2.2.2.2.2.2.1
theorem dX11_even_133 : decode cX11_even 133 = .ok (.lload 8, 2) := gdX11_even_114.2.2.2.2.2.2.2.2.2.2.1
theorem dX11_even_135 : decode cX11_even 135 = .ok (.invokestatic 88, 3) := gdX11_even_114.2.2.2.2.2.2.2.2.2.2.2.1
theorem dX11_even_138 : decode cX11_even 138 = .ok (.lstore 10, 2) := gdX11_even_114.2.2.2.2.2.2.2.2.2.2.2.2.1
theorem dX11_even_140 : decode cX11_even 140 = .ok (.iload 5, 2) := gdX11_even_114.2.2.2.2.2.2.2.2.2.2.2.2.2.1
theorem dX11_even_142 : decode cX11_even 142 = .ok (.ifCond .ne 8, 3) := gdX11_even_114.2.2.2.2.2.2.2.2.2.2.2.2.2.2.1
theorem dX11_even_145 : decode cX11_even 145 = .ok (.lload 6, 2) := gdX11_even_114.2.2.2.2.2.2.2.2.2.2.2.2.2.2.2
theorem gdX11_even_147 : (decode cX11_even 147 = .ok (.goto 5, 3)) ∧ (decode cX11_even 150 = .ok (.lload 8, 2)) ∧ (decode cX11_even 152 = .ok (.lload 10, 2)) ∧ (decode cX11_even 154 = .ok (.ldiv, 1)) ∧ (decode cX11_even 155 = .ok (.lstore 12, 2)) ∧ (decode cX11_even 157 = .ok (.lload 12, 2)) ∧ (decode cX11_even 159 = .ok (.lconst 0, 1)) ∧ (decode cX11_even 160 = .ok (.lcmp, 1)) ∧ (decode cX11_even 161 = .ok (.ifCond .ge 9, 3)) ∧ (decode cX11_even 164 = .ok (.lload 12, 2)) ∧ (decode cX11_even 166 = .ok (.lneg, 1)) ∧ (decode cX11_even 167 = .ok (.goto 5, 3)) ∧ (decode cX11_even 170 = .ok (.lload 12, 2)) ∧ (decode cX11_even 172 = .ok (.lreturn, 1)) := by decide +kernel
theorem dX11_even_147 : decode cX11_even 147 = .ok (.goto 5, 3) := gdX11_even_147.1
theorem dX11_even_150 : decode cX11_even 150 = .ok (.lload 8, 2) := gdX11_even_147.2.1
theorem dX11_even_152 : decode cX11_even 152 = .ok (.lload 10, 2) := gdX11_even_147.2.2.1
theorem dX11_even_154 : decode cX11_even 154 = .ok (.ldiv, 1) := gdX11_even_147.2.2.2.1
theorem dX11_even_155 : decode cX11_even 155 = .ok (.lstore 12, 2) := gdX11_even_147.2.2.2.2.1
theorem dX11_even_157 : decode cX11_even 157 = .ok (.lload 12, 2) := gdX11_even_147.2.2.2.2.2.1
theorem dX11_even_159 : decode cX11_even 159 = .ok (.lconst 0, 1) := gdX11_even_147.2.2.2.2.2.2.1
theorem dX11_even_160 : decode cX11_even 160 = .ok (.lcmp, 1) := gdX11_even_147.2.2.2.2.2.2.2.1
theorem dX11_even_161 : decode cX11_even 161 = .ok (.ifCond .ge 9, 3) := gdX11_even_147.2.2.2.2.2.2.2.2.1
theorem dX11_even_164 : decode cX11_even 164 = .ok (.lload 12, 2) := gdX11_even_147.2.2.2.2.2.2.2.2.2.1
theorem dX11_even_166 : decode cX11_even 166 = .ok (.lneg, 1) := gdX11_even_147.2.2.2.2.2.2.2.2.2.2.1
theorem dX11_even_167 : decode cX11_even 167 = .ok (.goto 5, 3) := gdX11_even_147.2.2.2.2.2.2.2.2.2.2.2.1
theorem dX11_even_170 : decode cX11_even 170 = .ok (.lload 12, 2) := gdX11_even_147.2.2.2.2.2.2.2.2.2.2.2.2.1
theorem dX11_even_172 : decode cX11_even 172 = .ok (.lreturn, 1) := gdX11_even_147.2.2.2.2.2.2.2.2.2.2.2.2.2
theorem gdX11_waiting_0 : (decode cX11_waiting 0 = .ok (.aload_n 0, 1)) ∧ (decode cX11_waiting 1 = .ok (.iload_n 1, 1)) ∧ (decode cX11_waiting 2 = .ok (.invokevirtual 316, 3)) ∧ (decode cX11_waiting 5 = .ok (.ifCond .eq 24, 3)) ∧ (decode cX11_waiting 8 = .ok (.aload_n 0, 1)) ∧ (decode cX11_waiting 9 = .ok (.iload_n 1, 1)) ∧ (decode cX11_waiting 10 = .ok (.iconst 0, 1)) ∧ (decode cX11_waiting 11 = .ok (.invokevirtual 296, 3)) ∧ (decode cX11_waiting 14 = .ok (.ifCond .lt 15, 3)) ∧ (decode cX11_waiting 17 = .ok (.iload_n 2, 1)) ∧ (decode cX11_waiting 18 = .ok (.i2l, 1)) ∧ (decode cX11_waiting 19 = .ok (.lconst 0, 1)) ∧ (decode cX11_waiting 20 = .ok (.ldc2_w 377, 3)) ∧ (decode cX11_waiting 23 = .ok (.invokestatic 131, 3)) ∧ (decode cX11_waiting 26 = .ok (.ifCond .ne 5, 3)) ∧ (decode cX11_waiting 29 = .ok (.iconst (-1), 1)) := by decide +kernel
theorem dX11_waiting_0 : decode cX11_waiting 0 = .ok (.aload_n 0, 1) := gdX11_waiting_0.1
theorem dX11_waiting_1 : decode cX11_waiting 1 = .ok (.iload_n 1, 1) := gdX11_waiting_0.2.1
theorem dX11_waiting_2 : decode cX11_waiting 2 = .ok (.invokevirtual 316, 3) := gdX11_waiting_0.2.2.1
theorem dX11_waiting_5 : decode cX11_waiting 5 = .ok (.ifCond .eq 24, 3) := gdX11_waiting_0.2.2.2.1
theorem dX11_waiting_8 : decode cX11_waiting 8 = .ok (.aload_n 0, 1) := gdX11_waiting_0.2.2.2.2.1
theorem dX11_waiting_9 : decode cX11_waiting 9 = .ok (.iload_n 1, 1) := gdX11_waiting_0.2.2.2.2.2.1
theorem dX11_waiting_10 : decode cX11_waiting 10 = .ok (.iconst 0, 1) := gdX11_waiting_0.2.2.2.2.2.2.1
theorem dX11_waiting_11 : decode cX11_waiting 11 = .ok (.invokevirtual 296, 3) := gdX11_waiting_0.2.2.2.2.2.2.2.1
theorem dX11_waiting_14 : decode cX11_waiting 14 = .ok (.ifCond .lt 15, 3) := gdX11_waiting_0.2.2.2.2.2.2.2.2.1
theorem dX11_waiting_17 : decode cX11_waiting 17 = .ok (.iload_n 2, 1) := gdX11_waiting_0.2.2.2.2.2.2.2.2.2.1
theorem dX11_waiting_18 : decode cX11_waiting 18 = .ok (.i2l, 1) := gdX11_waiting_0.2.2.2.2.2.2.2.2.2.2.1
theorem dX11_waiting_19 : decode cX11_waiting 19 = .ok (.lconst 0, 1) := gdX11_waiting_0.2.2.2.2.2.2.2.2.2.2.2.1
theorem dX11_waiting_20 : decode cX11_waiting 20 = .ok (.ldc2_w 377, 3) := gdX11_waiting_0.2.2.2.2.2.2.2.2.2.2.2.2.1
theorem dX11_waiting_23 : decode cX11_waiting 23 = .ok (.invokestatic 131, 3) := gdX11_waiting_0.2.2.2.2.2.2.2.2.2.2.2.2.2.1
theorem dX11_waiting_26 : decode cX11_waiting 26 = .ok (.ifCond .ne 5, 3) := gdX11_waiting_0.2.2.2.2.2.2.2.2.2.2.2.2.2.2.1
theorem dX11_waiting_29 : decode cX11_waiting 29 = .ok (.iconst (-1), 1) := gdX11_waiting_0.2.2.2.2.2.2.2.2.2.2.2.2.2.2.2
theorem gdX11_waiting_30 : (decode cX11_waiting 30 = .ok (.ireturn, 1)) ∧ (decode cX11_waiting 31 = .ok (.iconst (-1), 1)) ∧ (decode cX11_waiting 32 = .ok (.istore 4, 2)) ∧ (decode cX11_waiting 34 = .ok (.ldc2_w 321, 3)) ∧ (decode cX11_waiting 37 = .ok (.lstore 5, 2)) ∧ (decode cX11_waiting 39 = .ok (.iconst 0, 1)) ∧ (decode cX11_waiting 40 = .ok (.istore 7, 2)) ∧ (decode cX11_waiting 42 = .ok (.iload 7, 2)) ∧ (decode cX11_waiting 44 = .ok (.aload_n 0, 1)) ∧ (decode cX11_waiting 45 = .ok (.getfield 45, 3)) ∧ (decode cX11_waiting 48 = .ok (.iconst 0, 1)) ∧ (decode cX11_waiting 49 = .ok (.iaload, 1)) ∧ (decode cX11_waiting 50 = .ok (.if_icmp .ge 153, 3)) ∧ (decode cX11_waiting 53 = .ok (.iconst 0, 1)) ∧ (decode cX11_waiting 54 = .ok (.istore 8, 2)) ∧ (decode cX11_waiting 56 = .ok (.iload 8, 2)) := by decide +kernel
theorem dX11_waiting_30 : decode cX11_waiting 30 = .ok (.ireturn, 1) := gdX11_waiting_30.1
theorem dX11_waiting_31 : decode cX11_waiting 31 = .ok (.iconst (-1), 1) := gdX11_waiting_30.2.1
theorem dX11_waiting_32 : decode cX11_waiting 32 = .ok (.istore 4, 2) := gdX11_waiting_30.2.2.1
theorem dX11_waiting_34 : decode cX11_waiting 34 = .ok (.ldc2_w 321, 3) := gdX11_waiting_30.2.2.2.1
theorem dX11_waiting_37 : decode cX11_waiting 37 = .ok (.lstore 5, 2) := gdX11_waiting_30.2.2.2.2.1
theorem dX11_waiting_39 : decode cX11_waiting 39 = .ok (.iconst 0, 1) := gdX11_waiting_30.2.2.2.2.2.1
theorem dX11_waiting_40 : decode cX11_waiting 40 = .ok (.istore 7, 2) := gdX11_waiting_30.2.2.2.2.2.2.1
theorem dX11_waiting_42 : decode cX11_waiting 42 = .ok (.iload 7, 2) := gdX11_waiting_30.2.2.2.2.2.2.2.1
theorem dX11_waiting_44 : decode cX11_waiting 44 = .ok (.aload_n 0, 1) := gdX11_waiting_30.2.2.2.2.2.2.2.2.1
theorem dX11_waiting_45 : decode cX11_waiting 45 = .ok (.getfield 45, 3) := gdX11_waiting_30.2.2.2.2.2.2.2.2.2.1
theorem dX11_waiting_48 : decode cX11_waiting 48 = .ok (.iconst 0, 1) := gdX11_waiting_30.2.2.2.2.2.2.2.2.2.2.1
theorem dX11_waiting_49 : decode cX11_waiting 49 = .ok (.iaload, 1) := gdX11_waiting_30.2.2.2.2.2.2.2.2.2.2.2.1
theorem dX11_waiting_50 : decode cX11_waiting 50 = .ok (.if_icmp .ge 153, 3) := gdX11_waiting_30.2.2.2.2.2.2.2.2.2.2.2.2.1
theorem dX11_waiting_53 : decode cX11_waiting 53 = .ok (.iconst 0, 1) := gdX11_waiting_30.2.2.2.2.2.2.2.2.2.2.2.2.2.1
theorem dX11_waiting_54 : decode cX11_waiting 54 = .ok (.istore 8, 2) := gdX11_waiting_30.2.2.2.2.2.2.2.2.2.2.2.2.2.2.1
theorem dX11_waiting_56 : decode cX11_waiting 56 = .ok (.iload 8, 2) := gdX11_waiting_30.2.2.2.2.2.2.2.2.2.2.2.2.2.2.2
theorem gdX11_waiting_58 : (decode cX11_waiting 58 = .ok (.bipush 10, 2)) ∧ (decode cX11_waiting 60 = .ok (.if_icmp .ge 35, 3)) ∧ (decode cX11_waiting 63 = .ok (.aload_n 0, 1)) ∧ (decode cX11_waiting 64 = .ok (.getfield 60, 3)) ∧ (decode cX11_waiting 67 = .ok (.bipush 10, 2)) ∧ (decode cX11_waiting 69 = .ok (.iload_n 2, 1)) ∧ (decode cX11_waiting 70 = .ok (.imul, 1)) ∧ (decode cX11_waiting 71 = .ok (.iload 8, 2)) ∧ (decode cX11_waiting 73 = .ok (.iadd, 1)) ∧ (decode cX11_waiting 74 = .ok (.iload 8, 2)) ∧ (decode cX11_waiting 76 = .ok (.iload 7, 2)) ∧ (decode cX11_waiting 78 = .ok (.if_icmp .ne 7, 3)) ∧ (decode cX11_waiting 81 = .ok (.lconst 0, 1)) ∧ (decode cX11_waiting 82 = .ok (.goto 6, 3)) ∧ (decode cX11_waiting 85 = .ok (.ldc2_w 321, 3)) ∧ (decode cX11_waiting 88 = .ok (.lastore, 1)) := by decide +kernel
theorem dX11_waiting_58 : decode cX11_waiting 58 = .ok (.bipush 10, 2) := gdX11_waiting_58.1
theorem dX11_waiting_60 : decode cX11_waiting 60 = .ok (.if_icmp .ge 35, 3) := gdX11_waiting_58.2.1
theorem dX11_waiting_63 : decode cX11_waiting 63 = .ok (.aload_n 0, 1) := gdX11_waiting_58.2.2.1
theorem dX11_waiting_64 : decode cX11_waiting 64 = .ok (.getfield 60, 3) := gdX11_waiting_58.2.2.2.1
theorem dX11_waiting_67 : decode cX11_waiting 67 = .ok (.bipush 10, 2) := gdX11_waiting_58.2.2.2.2.1
theorem dX11_waiting_69 : decode cX11_waiting 69 = .ok (.iload_n 2, 1) := gdX11_waiting_58.2.2.2.2.2.1
theorem dX11_waiting_70 : decode cX11_waiting 70 = .ok (.imul, 1) := gdX11_waiting_58.2.2.2.2.2.2.1
theorem dX11_waiting_71 : decode cX11_waiting 71 = .ok (.iload 8, 2) := gdX11_waiting_58.2.2.2.2.2.2.2.1
theorem dX11_waiting_73 : decode cX11_waiting 73 = .ok (.iadd, 1) := gdX11_waiting_58.2.2.2.2.2.2.2.2.1
theorem dX11_waiting_74 : decode cX11_waiting 74 = .ok (.iload 8, 2) := gdX11_waiting_58.2.2.2.2.2.2.2.2.2.1
theorem dX11_waiting_76 : decode cX11_waiting 76 = .ok (.iload 7, 2) := gdX11_waiting_58.2.2.2.2.2.2.2.2.2.2.1
theorem dX11_waiting_78 : decode cX11_waiting 78 = .ok (.if_icmp .ne 7, 3) := gdX11_waiting_58.2.2.2.2.2.2.2.2.2.2.2.1
theorem dX11_waiting_81 : decode cX11_waiting 81 = .ok (.lconst 0, 1) := gdX11_waiting_58.2.2.2.2.2.2.2.2.2.2.2.2.1
theorem dX11_waiting_82 : decode cX11_waiting 82 = .ok (.goto 6, 3) := gdX11_waiting_58.2.2.2.2.2.2.2.2.2.2.2.2.2.1
theorem dX11_waiting_85 : decode cX11_waiting 85 = .ok (.ldc2_w 321, 3) := gdX11_waiting_58.2.2.2.2.2.2.2.2.2.2.2.2.2.2.1
theorem dX11_waiting_88 : decode cX11_waiting 88 = .ok (.lastore, 1) := gdX11_waiting_58.2.2.2.2.2.2.2.2.2.2.2.2.2.2.2
theorem gdX11_waiting_89 : (decode cX11_waiting 89 = .ok (.iinc 8 1, 3)) ∧ (decode cX11_waiting 92 = .ok (.goto (-36), 3)) ∧ (decode cX11_waiting 95 = .ok (.iload_n 2, 1)) ∧ (decode cX11_waiting 96 = .ok (.iconst 1, 1)) ∧ (decode cX11_waiting 97 = .ok (.isub, 1)) ∧ (decode cX11_waiting 98 = .ok (.istore 8, 2)) ∧ (decode cX11_waiting 100 = .ok (.iload 8, 2)) ∧ (decode cX11_waiting 102 = .ok (.ifCond .lt 52, 3)) ∧ (decode cX11_waiting 105 = .ok (.iconst 0, 1)) ∧ (decode cX11_waiting 106 = .ok (.istore 9, 2)) ∧ (decode cX11_waiting 108 = .ok (.iload 9, 2)) ∧ (decode cX11_waiting 110 = .ok (.aload_n 0, 1)) ∧ (decode cX11_waiting 111 = .ok (.getfield 45, 3)) ∧ (decode cX11_waiting 114 = .ok (.iconst 0, 1)) ∧ (decode cX11_waiting 115 = .ok (.iaload, 1)) ∧ (decode cX11_waiting 116 = .ok (.if_icmp .ge 32, 3)) := by decide +kernel
theorem dX11_waiting_89 : decode cX11_waiting 89 = .ok (.iinc 8 1, 3) := gdX11_waiting_89.1
theorem dX11_waiting_92 : decode cX11_waiting 92 = .ok (.goto (-36), 3) := gdX11_waiting_89.2.1
theorem dX11_waiting_95 : decode cX11_waiting 95 = .ok (.iload_n 2, 1) := gdX11_waiting_89.2.2.1
theorem dX11_waiting_96 : decode cX11_waiting 96 = .ok (.iconst 1, 1) := gdX11_waiting_89.2.2.2.1
theorem dX11_waiting_97 : decode cX11_waiting 97 = .ok (.isub, 1) := gdX11_waiting_89.2.2.2.2.1
theorem dX11_waiting_98 : decode cX11_waiting 98 = .ok (.istore 8, 2) := gdX11_waiting_89.2.2.2.2.2.1
theorem dX11_waiting_100 : decode cX11_waiting 100 = .ok (.iload 8, 2) := gdX11_waiting_89.2.2.2.2.2.2.1
theorem dX11_waiting_102 : decode cX11_waiting 102 = .ok (.ifCond .lt 52, 3) := gdX11_waiting_89.2.2.2.2.2.2.2.1
theorem dX11_waiting_105 : decode cX11_waiting 105 = .ok (.iconst 0, 1) := gdX11_waiting_89.2.2.2.2.2.2.2.2.1
theorem dX11_waiting_106 : decode cX11_waiting 106 = .ok (.istore 9, 2) := gdX11_waiting_89.2.2.2.2.2.2.2.2.2.1
theorem dX11_waiting_108 : decode cX11_waiting 108 = .ok (.iload 9, 2) := gdX11_waiting_89.2.2.2.2.2.2.2.2.2.2.1
theorem dX11_waiting_110 : decode cX11_waiting 110 = .ok (.aload_n 0, 1) := gdX11_waiting_89.2.2.2.2.2.2.2.2.2.2.2.1
theorem dX11_waiting_111 : decode cX11_waiting 111 = .ok (.getfield 45, 3) := gdX11_waiting_89.2.2.2.2.2.2.2.2.2.2.2.2.1
theorem dX11_waiting_114 : decode cX11_waiting 114 = .ok (.iconst 0, 1) := gdX11_waiting_89.2.2.2.2.2.2.2.2.2.2.2.2.2.1
theorem dX11_waiting_115 : decode cX11_waiting 115 = .ok (.iaload, 1) := gdX11_waiting_89.2.2.2.2.2.2.2.2.2.2.2.2.2.2.1
theorem dX11_waiting_116 : decode cX11_waiting 116 = .ok (.if_icmp .ge 32, 3) := gdX11_waiting_89.2.2.2.2.2.2.2.2.2.2.2.2.2.2.2
theorem gdX11_waiting_119 : (decode cX11_waiting 119 = .ok (.aload_n 0, 1)) ∧ (decode cX11_waiting 120 = .ok (.getfield 60, 3)) ∧ (decode cX11_waiting 123 = .ok (.bipush 10, 2)) ∧ (decode cX11_waiting 125 = .ok (.iload 8, 2)) ∧ (decode cX11_waiting 127 = .ok (.imul, 1)) ∧ (decode cX11_waiting 128 = .ok (.iload 9, 2)) ∧ (decode cX11_waiting 130 = .ok (.iadd, 1)) ∧ (decode cX11_waiting 131 = .ok (.aload_n 0, 1)) ∧ (decode cX11_waiting 132 = .ok (.iload 9, 2)) ∧ (decode cX11_waiting 134 = .ok (.iload 8, 2)) ∧ (decode cX11_waiting 136 = .ok (.iload_n 2, 1)) ∧ (decode cX11_waiting 137 = .ok (.iload_n 3, 1)) ∧ (decode cX11_waiting 138 = .ok (.invokevirtual 379, 3)) ∧ (decode cX11_waiting 141 = .ok (.lastore, 1)) ∧ (decode cX11_waiting 142 = .ok (.iinc 9 1, 3)) ∧ (decode cX11_waiting 145 = .ok (.goto (-37), 3)) := by decide +kernel
theorem dX11_waiting_119 : decode cX11_waiting 119 = .ok (.aload_n 0, 1) := gdX11_waiting_119.1
theorem dX11_waiting_120 : decode cX11_waiting 120 = .ok (.getfield 60, 3) := gdX11_waiting_119.2.1
theorem dX11_waiting_123 : decode cX11_waiting 123 = .ok (.bipush 10, 2) := gdX11_waiting_119.2.2.1
theorem dX11_waiting_125 : decode cX11_waiting 125 = .ok (.iload 8, 2) := gdX11_waiting_119.2.2.2.1
theorem dX11_waiting_127 : decode cX11_waiting 127 = .ok (.imul, 1) := gdX11_waiting_119.2.2.2.2.1
theorem dX11_waiting_128 : decode cX11_waiting 128 = .ok (.iload 9, 2) := gdX11_waiting_119.2.2.2.2.2.1
theorem dX11_waiting_130 : decode cX11_waiting 130 = .ok (.iadd, 1) := gdX11_waiting_119.2.2.2.2.2.2.1
theorem dX11_waiting_131 : decode cX11_waiting 131 = .ok (.aload_n 0, 1) := gdX11_waiting_119.2.2.2.2.2.2.2.1
theorem dX11_waiting_132 : decode cX11_waiting 132 = .ok (.iload 9, 2) := gdX11_waiting_119.2.2.2.2.2.2.2.2.1
theorem dX11_waiting_134 : decode cX11_waiting 134 = .ok (.iload 8, 2) := gdX11_waiting_119.2.2.2.2.2.2.2.2.2.1
theorem dX11_waiting_136 : decode cX11_waiting 136 = .ok (.iload_n 2, 1) := gdX11_waiting_119.2.2.2.2.2.2.2.2.2.2.1
theorem dX11_waiting_137 : decode cX11_waiting 137 = .ok (.iload_n 3, 1) := gdX11_waiting_119.2.2.2.2.2.2.2.2.2.2.2.1
theorem dX11_waiting_138 : decode cX11_waiting 138 = .ok (.invokevirtual 379, 3) := gdX11_waiting_119.2.2.2.2.2.2.2.2.2.2.2.2.1
theorem dX11_waiting_141 : decode cX11_waiting 141 = .ok (.lastore, 1) := gdX11_waiting_119.2.2.2.2.2.2.2.2.2.2.2.2.2.1
theorem dX11_waiting_142 : decode cX11_waiting 142 = .ok (.iinc 9 1, 3) := gdX11_waiting_119.2.2.2.2.2.2.2.2.2.2.2.2.2.2.1
theorem dX11_waiting_145 : decode cX11_waiting 145 = .ok (.goto (-37), 3) := gdX11_waiting_119.2.2.2.2.2.2.2.2.2.2.2.2.2.2.2
theorem gdX11_waiting_148 : (decode cX11_waiting 148 = .ok (.iinc 8 (-1), 3)) ∧ (decode cX11_waiting 151 = .ok (.goto (-51), 3)) ∧ (decode cX11_waiting 154 = .ok (.aload_n 0, 1)) ∧ (decode cX11_waiting 155 = .ok (.getfield 60, 3)) ∧ (decode cX11_waiting 158 = .ok (.aload_n 0, 1)) ∧ (decode cX11_waiting 159 = .ok (.iload_n 1, 1)) ∧ (decode cX11_waiting 160 = .ok (.iconst 0, 1)) ∧ (decode cX11_waiting 161 = .ok (.invokevirtual 296, 3)) ∧ (decode cX11_waiting 164 = .ok (.laload, 1)) ∧ (decode cX11_waiting 165 = .ok (.lstore 8, 2)) ∧ (decode cX11_waiting 167 = .ok (.lload 8, 2)) ∧ (decode cX11_waiting 169 = .ok (.lconst 0, 1)) ∧ (decode cX11_waiting 170 = .ok (.lcmp, 1)) ∧ (decode cX11_waiting 171 = .ok (.ifCond .lt 26, 3)) ∧ (decode cX11_waiting 174 = .ok (.aload_n 0, 1)) ∧ (decode cX11_waiting 175 = .ok (.lload 8, 2)) := by decide +kernel
theorem dX11_waiting_148 : decode cX11_waiting 148 = .ok (.iinc 8 (-1), 3) := gdX11_waiting_148.1
theorem dX11_waiting_151 : decode cX11_waiting 151 = .ok (.goto (-51), 3) := gdX11_waiting_148.2.1
theorem dX11_waiting_154 : decode cX11_waiting 154 = .ok (.aload_n 0, 1) := gdX11_waiting_148.2.2.1
theorem dX11_waiting_155 : decode cX11_waiting 155 = .ok (.getfield 60, 3) := gdX11_waiting_148.2.2.2.1
theorem dX11_waiting_158 : decode cX11_waiting 158 = .ok (.aload_n 0, 1) := gdX11_waiting_148.2.2.2.2.1
theorem dX11_waiting_159 : decode cX11_waiting 159 = .ok (.iload_n 1, 1) := gdX11_waiting_148.2.2.2.2.2.1
theorem dX11_waiting_160 : decode cX11_waiting 160 = .ok (.iconst 0, 1) := gdX11_waiting_148.2.2.2.2.2.2.1
theorem dX11_waiting_161 : decode cX11_waiting 161 = .ok (.invokevirtual 296, 3) := gdX11_waiting_148.2.2.2.2.2.2.2.1
theorem dX11_waiting_164 : decode cX11_waiting 164 = .ok (.laload, 1) := gdX11_waiting_148.2.2.2.2.2.2.2.2.1
theorem dX11_waiting_165 : decode cX11_waiting 165 = .ok (.lstore 8, 2) := gdX11_waiting_148.2.2.2.2.2.2.2.2.2.1
theorem dX11_waiting_167 : decode cX11_waiting 167 = .ok (.lload 8, 2) := gdX11_waiting_148.2.2.2.2.2.2.2.2.2.2.1
theorem dX11_waiting_169 : decode cX11_waiting 169 = .ok (.lconst 0, 1) := gdX11_waiting_148.2.2.2.2.2.2.2.2.2.2.2.1
theorem dX11_waiting_170 : decode cX11_waiting 170 = .ok (.lcmp, 1) := gdX11_waiting_148.2.2.2.2.2.2.2.2.2.2.2.2.1
theorem dX11_waiting_171 : decode cX11_waiting 171 = .ok (.ifCond .lt 26, 3) := gdX11_waiting_148.2.2.2.2.2.2.2.2.2.2.2.2.2.1
theorem dX11_waiting_174 : decode cX11_waiting 174 = .ok (.aload_n 0, 1) := gdX11_waiting_148.2.2.2.2.2.2.2.2.2.2.2.2.2.2.1
theorem dX11_waiting_175 : decode cX11_waiting 175 = .ok (.lload 8, 2) := gdX11_waiting_148.2.2.2.2.2.2.2.2.2.2.2.2.2.2.2
theorem gdX11_waiting_177 : (decode cX11_waiting 177 = .ok (.lload 5, 2)) ∧ (decode cX11_waiting 179 = .ok (.iload_n 3, 1)) ∧ (decode cX11_waiting 180 = .ok (.invokevirtual 373, 3)) ∧ (decode cX11_waiting 183 = .ok (.ifCond .ne 6, 3)) ∧ (decode cX11_waiting 186 = .ok (.goto 11, 3)) ∧ (decode cX11_waiting 189 = .ok (.iload 7, 2)) ∧ (decode cX11_waiting 191 = .ok (.istore 4, 2)) ∧ (decode cX11_waiting 193 = .ok (.lload 8, 2)) ∧ (decode cX11_waiting 195 = .ok (.lstore 5, 2)) ∧ (decode cX11_waiting 197 = .ok (.iinc 7 1, 3)) ∧ (decode cX11_waiting 200 = .ok (.goto (-158), 3)) ∧ (decode cX11_waiting 203 = .ok (.iload 4, 2)) ∧ (decode cX11_waiting 205 = .ok (.ireturn, 1)) := by decide +kernel
theorem dX11_waiting_177 : decode cX11_waiting 177 = .ok (.lload 5, 2) := gdX11_waiting_177.1
theorem dX11_waiting_179 : decode cX11_waiting 179 = .ok (.iload_n 3, 1) := gdX11_waiting_177.2.1
theorem dX11_waiting_180 : decode cX11_waiting 180 = .ok (.invokevirtual 373, 3) := gdX11_waiting_177.2.2.1
theorem dX11_waiting_183 : decode cX11_waiting 183 = .ok (.ifCond .ne 6, 3) := gdX11_waiting_177.2.2.2.1
theorem dX11_waiting_186 : decode cX11_waiting 186 = .ok (.goto 11, 3) := gdX11_waiting_177.2.2.2.2.1
theorem dX11_waiting_189 : decode cX11_waiting 189 = .ok (.iload 7, 2) := gdX11_waiting_177.2.2.2.2.2.1
theorem dX11_waiting_191 : decode cX11_waiting 191 = .ok (.istore 4, 2) := gdX11_waiting_177.2.2.2.2.2.2.1
theorem dX11_waiting_193 : decode cX11_waiting 193 = .ok (.lload 8, 2) := gdX11_waiting_177.2.2.2.2.2.2.2.1
theorem dX11_waiting_195 : decode cX11_waiting 195 = .ok (.lstore 5, 2) := gdX11_waiting_177.2.2.2.2.2.2.2.2.1
theorem dX11_waiting_197 : decode cX11_waiting 197 = .ok (.iinc 7 1, 3) := gdX11_waiting_177.2.2.2.2.2.2.2.2.2.1
theorem dX11_waiting_200 : decode cX11_waiting 200 = .ok (.goto (-158), 3) := gdX11_waiting_177.2.2.2.2.2.2.2.2.2.2.1
theorem dX11_waiting_203 : decode cX11_waiting 203 = .ok (.iload 4, 2) := gdX11_waiting_177.2.2.2.2.2.2.2.2.2.2.2.1
theorem dX11_waiting_205 : decode cX11_waiting 205 = .ok (.ireturn, 1) := gdX11_waiting_177.2.2.2.2.2.2.2.2.2.2.2.2
theorem gdX11_when_0 : (decode cX11_when 0 = .ok (.aload_n 0, 1)) ∧ (decode cX11_when 1 = .ok (.iload_n 1, 1)) ∧ (decode cX11_when 2 = .ok (.invokevirtual 316, 3)) ∧ (decode cX11_when 5 = .ok (.ifCond .eq 34, 3)) ∧ (decode cX11_when 8 = .ok (.aload_n 0, 1)) ∧ (decode cX11_when 9 = .ok (.iload_n 2, 1)) ∧ (decode cX11_when 10 = .ok (.invokevirtual 299, 3)) ∧ (decode cX11_when 13 = .ok (.ifCond .eq 26, 3)) ∧ (decode cX11_when 16 = .ok (.iload_n 3, 1)) ∧ (decode cX11_when 17 = .ok (.i2l, 1)) ∧ (decode cX11_when 18 = .ok (.lconst 0, 1)) ∧ (decode cX11_when 19 = .ok (.ldc2_w 365, 3)) ∧ (decode cX11_when 22 = .ok (.invokestatic 131, 3)) ∧ (decode cX11_when 25 = .ok (.ifCond .eq 14, 3)) ∧ (decode cX11_when 28 = .ok (.iload 4, 2)) ∧ (decode cX11_when 30 = .ok (.i2l, 1)) := by decide +kernel
theorem dX11_when_0 : decode cX11_when 0 = .ok (.aload_n 0, 1) := gdX11_when_0.1
theorem dX11_when_1 : decode cX11_when 1 = .ok (.iload_n 1, 1) := gdX11_when_0.2.1
theorem dX11_when_2 : decode cX11_when 2 = .ok (.invokevirtual 316, 3) := gdX11_when_0.2.2.1
theorem dX11_when_5 : decode cX11_when 5 = .ok (.ifCond .eq 34, 3) := gdX11_when_0.2.2.2.1
theorem dX11_when_8 : decode cX11_when 8 = .ok (.aload_n 0, 1) := gdX11_when_0.2.2.2.2.1
theorem dX11_when_9 : decode cX11_when 9 = .ok (.iload_n 2, 1) := gdX11_when_0.2.2.2.2.2.1
theorem dX11_when_10 : decode cX11_when 10 = .ok (.invokevirtual 299, 3) := gdX11_when_0.2.2.2.2.2.2.1
theorem dX11_when_13 : decode cX11_when 13 = .ok (.ifCond .eq 26, 3) := gdX11_when_0.2.2.2.2.2.2.2.1
theorem dX11_when_16 : decode cX11_when 16 = .ok (.iload_n 3, 1) := gdX11_when_0.2.2.2.2.2.2.2.2.1
theorem dX11_when_17 : decode cX11_when 17 = .ok (.i2l, 1) := gdX11_when_0.2.2.2.2.2.2.2.2.2.1
theorem dX11_when_18 : decode cX11_when 18 = .ok (.lconst 0, 1) := gdX11_when_0.2.2.2.2.2.2.2.2.2.2.1
theorem dX11_when_19 : decode cX11_when 19 = .ok (.ldc2_w 365, 3) := gdX11_when_0.2.2.2.2.2.2.2.2.2.2.2.1
theorem dX11_when_22 : decode cX11_when 22 = .ok (.invokestatic 131, 3) := gdX11_when_0.2.2.2.2.2.2.2.2.2.2.2.2.1
theorem dX11_when_25 : decode cX11_when 25 = .ok (.ifCond .eq 14, 3) := gdX11_when_0.2.2.2.2.2.2.2.2.2.2.2.2.2.1
theorem dX11_when_28 : decode cX11_when 28 = .ok (.iload 4, 2) := gdX11_when_0.2.2.2.2.2.2.2.2.2.2.2.2.2.2.1
theorem dX11_when_30 : decode cX11_when 30 = .ok (.i2l, 1) := gdX11_when_0.2.2.2.2.2.2.2.2.2.2.2.2.2.2.2
theorem gdX11_when_31 : (decode cX11_when 31 = .ok (.lconst 0, 1)) ∧ (decode cX11_when 32 = .ok (.lconst 1, 1)) ∧ (decode cX11_when 33 = .ok (.invokestatic 131, 3)) ∧ (decode cX11_when 36 = .ok (.ifCond .ne 7, 3)) ∧ (decode cX11_when 39 = .ok (.ldc2_w 321, 3)) ∧ (decode cX11_when 42 = .ok (.lreturn, 1)) ∧ (decode cX11_when 43 = .ok (.iload_n 3, 1)) ∧ (decode cX11_when 44 = .ok (.i2l, 1)) ∧ (decode cX11_when 45 = .ok (.ldc2_w 281, 3)) ∧ (decode cX11_when 48 = .ok (.lmul, 1)) ∧ (decode cX11_when 49 = .ok (.aload_n 0, 1)) ∧ (decode cX11_when 50 = .ok (.getfield 48, 3)) ∧ (decode cX11_when 53 = .ok (.iload_n 1, 1)) ∧ (decode cX11_when 54 = .ok (.laload, 1)) ∧ (decode cX11_when 55 = .ok (.lsub, 1)) ∧ (decode cX11_when 56 = .ok (.lstore 5, 2)) := by decide +kernel
theorem dX11_when_31 : decode cX11_when 31 = .ok (.lconst 0, 1) := gdX11_when_31.1
theorem dX11_when_32 : decode cX11_when 32 = .ok (.lconst 1, 1) := gdX11_when_31.2.1
theorem dX11_when_33 : decode cX11_when 33 = .ok (.invokestatic 131, 3) := gdX11_when_31.2.2.1
theorem dX11_when_36 : decode cX11_when 36 = .ok (.ifCond .ne 7, 3) := gdX11_when_31.2.2.2.1
theorem dX11_when_39 : decode cX11_when 39 = .ok (.ldc2_w 321, 3) := gdX11_when_31.2.2.2.2.1
theorem dX11_when_42 : decode cX11_when 42 = .ok (.lreturn, 1) := gdX11_when_31.2.2.2.2.2.1
theorem dX11_when_43 : decode cX11_when 43 = .ok (.iload_n 3, 1) := gdX11_when_31.2.2.2.2.2.2.1
theorem dX11_when_44 : decode cX11_when 44 = .ok (.i2l, 1) := gdX11_when_31.2.2.2.2.2.2.2.1
theorem dX11_when_45 : decode cX11_when 45 = .ok (.ldc2_w 281, 3) := gdX11_when_31.2.2.2.2.2.2.2.2.1
theorem dX11_when_48 : decode cX11_when 48 = .ok (.lmul, 1) := gdX11_when_31.2.2.2.2.2.2.2.2.2.1
theorem dX11_when_49 : decode cX11_when 49 = .ok (.aload_n 0, 1) := gdX11_when_31.2.2.2.2.2.2.2.2.2.2.1
theorem dX11_when_50 : decode cX11_when 50 = .ok (.getfield 48, 3) := gdX11_when_31.2.2.2.2.2.2.2.2.2.2.2.1
theorem dX11_when_53 : decode cX11_when 53 = .ok (.iload_n 1, 1) := gdX11_when_31.2.2.2.2.2.2.2.2.2.2.2.2.1
theorem dX11_when_54 : decode cX11_when 54 = .ok (.laload, 1) := gdX11_when_31.2.2.2.2.2.2.2.2.2.2.2.2.2.1
theorem dX11_when_55 : decode cX11_when 55 = .ok (.lsub, 1) := gdX11_when_31.2.2.2.2.2.2.2.2.2.2.2.2.2.2.1
theorem dX11_when_56 : decode cX11_when 56 = .ok (.lstore 5, 2) := gdX11_when_31.2.2.2.2.2.2.2.2.2.2.2.2.2.2.2
theorem gdX11_when_58 : (decode cX11_when 58 = .ok (.lload 5, 2)) ∧ (decode cX11_when 60 = .ok (.lconst 0, 1)) ∧ (decode cX11_when 61 = .ok (.lcmp, 1)) ∧ (decode cX11_when 62 = .ok (.ifCond .ge 7, 3)) ∧ (decode cX11_when 65 = .ok (.ldc2_w 360, 3)) ∧ (decode cX11_when 68 = .ok (.lreturn, 1)) ∧ (decode cX11_when 69 = .ok (.lload 5, 2)) ∧ (decode cX11_when 71 = .ok (.lconst 0, 1)) ∧ (decode cX11_when 72 = .ok (.lcmp, 1)) ∧ (decode cX11_when 73 = .ok (.ifCond .ne 9, 3)) ∧ (decode cX11_when 76 = .ok (.iload 4, 2)) ∧ (decode cX11_when 78 = .ok (.i2l, 1)) ∧ (decode cX11_when 79 = .ok (.goto 15, 3)) ∧ (decode cX11_when 82 = .ok (.lload 5, 2)) ∧ (decode cX11_when 84 = .ok (.aload_n 0, 1)) ∧ (decode cX11_when 85 = .ok (.iload_n 2, 1)) := by decide +kernel
theorem dX11_when_58 : decode cX11_when 58 = .ok (.lload 5, 2) := gdX11_when_58.1
theorem dX11_when_60 : decode cX11_when 60 = .ok (.lconst 0, 1) := gdX11_when_58.2.1
theorem dX11_when_61 : decode cX11_when 61 = .ok (.lcmp, 1) := gdX11_when_58.2.2.1
theorem dX11_when_62 : decode cX11_when 62 = .ok (.ifCond .ge 7, 3) := gdX11_when_58.2.2.2.1
theorem dX11_when_65 : decode cX11_when 65 = .ok (.ldc2_w 360, 3) := gdX11_when_58.2.2.2.2.1
theorem dX11_when_68 : decode cX11_when 68 = .ok (.lreturn, 1) := gdX11_when_58.2.2.2.2.2.1
theorem dX11_when_69 : decode cX11_when 69 = .ok (.lload 5, 2) := gdX11_when_58.2.2.2.2.2.2.1
theorem dX11_when_71 : decode cX11_when 71 = .ok (.lconst 0, 1) := gdX11_when_58.2.2.2.2.2.2.2.1
theorem dX11_when_72 : decode cX11_when 72 = .ok (.lcmp, 1) := gdX11_when_58.2.2.2.2.2.2.2.2.1
theorem dX11_when_73 : decode cX11_when 73 = .ok (.ifCond .ne 9, 3) := gdX11_when_58.2.2.2.2.2.2.2.2.2.1
theorem dX11_when_76 : decode cX11_when 76 = .ok (.iload 4, 2) := gdX11_when_58.2.2.2.2.2.2.2.2.2.2.1
theorem dX11_when_78 : decode cX11_when 78 = .ok (.i2l, 1) := gdX11_when_58.2.2.2.2.2.2.2.2.2.2.2.1
theorem dX11_when_79 : decode cX11_when 79 = .ok (.goto 15, 3) := gdX11_when_58.2.2.2.2.2.2.2.2.2.2.2.2.1
theorem dX11_when_82 : decode cX11_when 82 = .ok (.lload 5, 2) := gdX11_when_58.2.2.2.2.2.2.2.2.2.2.2.2.2.1
theorem dX11_when_84 : decode cX11_when 84 = .ok (.aload_n 0, 1) := gdX11_when_58.2.2.2.2.2.2.2.2.2.2.2.2.2.2.1
theorem dX11_when_85 : decode cX11_when 85 = .ok (.iload_n 2, 1) := gdX11_when_58.2.2.2.2.2.2.2.2.2.2.2.2.2.2.2
