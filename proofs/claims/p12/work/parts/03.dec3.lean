theorem gdX10_when_0 : (decode cX10_when 0 = .ok (.aload_n 0, 1)) ∧ (decode cX10_when 1 = .ok (.iload_n 1, 1)) ∧ (decode cX10_when 2 = .ok (.invokevirtual 167, 3)) ∧ (decode cX10_when 5 = .ok (.ifCond .eq 30, 3)) ∧ (decode cX10_when 8 = .ok (.aload_n 0, 1)) ∧ (decode cX10_when 9 = .ok (.iload_n 2, 1)) ∧ (decode cX10_when 10 = .ok (.invokevirtual 133, 3)) ∧ (decode cX10_when 13 = .ok (.ifCond .eq 22, 3)) ∧ (decode cX10_when 16 = .ok (.iload_n 3, 1)) ∧ (decode cX10_when 17 = .ok (.iconst 0, 1)) ∧ (decode cX10_when 18 = .ok (.sipush 9999, 3)) ∧ (decode cX10_when 21 = .ok (.invokestatic 91, 3)) ∧ (decode cX10_when 24 = .ok (.ifCond .eq 11, 3)) ∧ (decode cX10_when 27 = .ok (.iload 4, 2)) ∧ (decode cX10_when 29 = .ok (.invokestatic 182, 3)) ∧ (decode cX10_when 32 = .ok (.ifCond .ne 7, 3)) := by decide +kernel
theorem dX10_when_0 : decode cX10_when 0 = .ok (.aload_n 0, 1) := gdX10_when_0.1
theorem dX10_when_1 : decode cX10_when 1 = .ok (.iload_n 1, 1) := gdX10_when_0.2.1
theorem dX10_when_2 : decode cX10_when 2 = .ok (.invokevirtual 167, 3) := gdX10_when_0.2.2.1
theorem dX10_when_5 : decode cX10_when 5 = .ok (.ifCond .eq 30, 3) := gdX10_when_0.2.2.2.1
theorem dX10_when_8 : decode cX10_when 8 = .ok (.aload_n 0, 1) := gdX10_when_0.2.2.2.2.1
theorem dX10_when_9 : decode cX10_when 9 = .ok (.iload_n 2, 1) := gdX10_when_0.2.2.2.2.2.1
theorem dX10_when_10 : decode cX10_when 10 = .ok (.invokevirtual 133, 3) := gdX10_when_0.2.2.2.2.2.2.1
theorem dX10_when_13 : decode cX10_when 13 = .ok (.ifCond .eq 22, 3) := gdX10_when_0.2.2.2.2.2.2.2.1
theorem dX10_when_16 : decode cX10_when 16 = .ok (.iload_n 3, 1) := gdX10_when_0.2.2.2.2.2.2.2.2.1
theorem dX10_when_17 : decode cX10_when 17 = .ok (.iconst 0, 1) := gdX10_when_0.2.2.2.2.2.2.2.2.2.1
theorem dX10_when_18 : decode cX10_when 18 = .ok (.sipush 9999, 3) := gdX10_when_0.2.2.2.2.2.2.2.2.2.2.1
theorem dX10_when_21 : decode cX10_when 21 = .ok (.invokestatic 91, 3) := gdX10_when_0.2.2.2.2.2.2.2.2.2.2.2.1
theorem dX10_when_24 : decode cX10_when 24 = .ok (.ifCond .eq 11, 3) := gdX10_when_0.2.2.2.2.2.2.2.2.2.2.2.2.1
theorem dX10_when_27 : decode cX10_when 27 = .ok (.iload 4, 2) := gdX10_when_0.2.2.2.2.2.2.2.2.2.2.2.2.2.1
theorem dX10_when_29 : decode cX10_when 29 = .ok (.invokestatic 182, 3) := gdX10_when_0.2.2.2.2.2.2.2.2.2.2.2.2.2.2.1
theorem dX10_when_32 : decode cX10_when 32 = .ok (.ifCond .ne 7, 3) := gdX10_when_0.2.2.2.2.2.2.2.2.2.2.2.2.2.2.2
theorem gdX10_when_35 : (decode cX10_when 35 = .ok (.ldc2_w 185, 3)) ∧ (decode cX10_when 38 = .ok (.lreturn, 1)) ∧ (decode cX10_when 39 = .ok (.iload_n 3, 1)) ∧ (decode cX10_when 40 = .ok (.i2l, 1)) ∧ (decode cX10_when 41 = .ok (.ldc2_w 145, 3)) ∧ (decode cX10_when 44 = .ok (.lmul, 1)) ∧ (decode cX10_when 45 = .ok (.aload_n 0, 1)) ∧ (decode cX10_when 46 = .ok (.getfield 19, 3)) ∧ (decode cX10_when 49 = .ok (.getfield 109, 3)) ∧ (decode cX10_when 52 = .ok (.getfield 187, 3)) ∧ (decode cX10_when 55 = .ok (.iload_n 1, 1)) ∧ (decode cX10_when 56 = .ok (.laload, 1)) ∧ (decode cX10_when 57 = .ok (.lsub, 1)) ∧ (decode cX10_when 58 = .ok (.lstore 5, 2)) ∧ (decode cX10_when 60 = .ok (.lload 5, 2)) ∧ (decode cX10_when 62 = .ok (.lconst 0, 1)) := by decide +kernel
theorem dX10_when_35 : decode cX10_when 35 = .ok (.ldc2_w 185, 3) := gdX10_when_35.1
theorem dX10_when_38 : decode cX10_when 38 = .ok (.lreturn, 1) := gdX10_when_35.2.1
theorem dX10_when_39 : decode cX10_when 39 = .ok (.iload_n 3, 1) := gdX10_when_35.2.2.1
theorem dX10_when_40 : decode cX10_when 40 = .ok (.i2l, 1) := gdX10_when_35.2.2.2.1
theorem dX10_when_41 : decode cX10_when 41 = .ok (.ldc2_w 145, 3) := gdX10_when_35.2.2.2.2.1
theorem dX10_when_44 : decode cX10_when 44 = .ok (.lmul, 1) := gdX10_when_35.2.2.2.2.2.1
theorem dX10_when_45 : decode cX10_when 45 = .ok (.aload_n 0, 1) := gdX10_when_35.2.2.2.2.2.2.1
theorem dX10_when_46 : decode cX10_when 46 = .ok (.getfield 19, 3) := gdX10_when_35.2.2.2.2.2.2.2.1
theorem dX10_when_49 : decode cX10_when 49 = .ok (.getfield 109, 3) := gdX10_when_35.2.2.2.2.2.2.2.2.1
theorem dX10_when_52 : decode cX10_when 52 = .ok (.getfield 187, 3) := gdX10_when_35.2.2.2.2.2.2.2.2.2.1
theorem dX10_when_55 : decode cX10_when 55 = .ok (.iload_n 1, 1) := gdX10_when_35.2.2.2.2.2.2.2.2.2.2.1
theorem dX10_when_56 : decode cX10_when 56 = .ok (.laload, 1) := gdX10_when_35.2.2.2.2.2.2.2.2.2.2.2.1
theorem dX10_when_57 : decode cX10_when 57 = .ok (.lsub, 1) := gdX10_when_35.2.2.2.2.2.2.2.2.2.2.2.2.1
theorem dX10_when_58 : decode cX10_when 58 = .ok (.lstore 5, 2) := gdX10_when_35.2.2.2.2.2.2.2.2.2.2.2.2.2.1
theorem dX10_when_60 : decode cX10_when 60 = .ok (.lload 5, 2) := gdX10_when_35.2.2.2.2.2.2.2.2.2.2.2.2.2.2.1
theorem dX10_when_62 : decode cX10_when 62 = .ok (.lconst 0, 1) := gdX10_when_35.2.2.2.2.2.2.2.2.2.2.2.2.2.2.2
theorem gdX10_when_63 : (decode cX10_when 63 = .ok (.lcmp, 1)) ∧ (decode cX10_when 64 = .ok (.ifCond .ge 7, 3)) ∧ (decode cX10_when 67 = .ok (.ldc2_w 216, 3)) ∧ (decode cX10_when 70 = .ok (.lreturn, 1)) ∧ (decode cX10_when 71 = .ok (.lload 5, 2)) ∧ (decode cX10_when 73 = .ok (.aload_n 0, 1)) ∧ (decode cX10_when 74 = .ok (.getfield 19, 3)) ∧ (decode cX10_when 77 = .ok (.getfield 102, 3)) ∧ (decode cX10_when 80 = .ok (.getfield 141, 3)) ∧ (decode cX10_when 83 = .ok (.iload_n 2, 1)) ∧ (decode cX10_when 84 = .ok (.laload, 1)) ∧ (decode cX10_when 85 = .ok (.iload 4, 2)) ∧ (decode cX10_when 87 = .ok (.invokestatic 147, 3)) ∧ (decode cX10_when 90 = .ok (.lreturn, 1)) := by decide +kernel
theorem dX10_when_63 : decode cX10_when 63 = .ok (.lcmp, 1) := gdX10_when_63.1
theorem dX10_when_64 : decode cX10_when 64 = .ok (.ifCond .ge 7, 3) := gdX10_when_63.2.1
theorem dX10_when_67 : decode cX10_when 67 = .ok (.ldc2_w 216, 3) := gdX10_when_63.2.2.1
theorem dX10_when_70 : decode cX10_when 70 = .ok (.lreturn, 1) := gdX10_when_63.2.2.2.1
theorem dX10_when_71 : decode cX10_when 71 = .ok (.lload 5, 2) := gdX10_when_63.2.2.2.2.1
theorem dX10_when_73 : decode cX10_when 73 = .ok (.aload_n 0, 1) := gdX10_when_63.2.2.2.2.2.1
theorem dX10_when_74 : decode cX10_when 74 = .ok (.getfield 19, 3) := gdX10_when_63.2.2.2.2.2.2.1
theorem dX10_when_77 : decode cX10_when 77 = .ok (.getfield 102, 3) := gdX10_when_63.2.2.2.2.2.2.2.1
theorem dX10_when_80 : decode cX10_when 80 = .ok (.getfield 141, 3) := gdX10_when_63.2.2.2.2.2.2.2.2.1
theorem dX10_when_83 : decode cX10_when 83 = .ok (.iload_n 2, 1) := gdX10_when_63.2.2.2.2.2.2.2.2.2.1
theorem dX10_when_84 : decode cX10_when 84 = .ok (.laload, 1) := gdX10_when_63.2.2.2.2.2.2.2.2.2.2.1
theorem dX10_when_85 : decode cX10_when 85 = .ok (.iload 4, 2) := gdX10_when_63.2.2.2.2.2.2.2.2.2.2.2.1
theorem dX10_when_87 : decode cX10_when 87 = .ok (.invokestatic 147, 3) := gdX10_when_63.2.2.2.2.2.2.2.2.2.2.2.2.1
theorem dX10_when_90 : decode cX10_when 90 = .ok (.lreturn, 1) := gdX10_when_63.2.2.2.2.2.2.2.2.2.2.2.2.2
theorem gdX10_shown_0 : (decode cX10_shown 0 = .ok (.aload_n 0, 1)) ∧ (decode cX10_shown 1 = .ok (.iload_n 1, 1)) ∧ (decode cX10_shown 2 = .ok (.invokevirtual 133, 3)) ∧ (decode cX10_shown 5 = .ok (.ifCond .eq 19, 3)) ∧ (decode cX10_shown 8 = .ok (.iload_n 2, 1)) ∧ (decode cX10_shown 9 = .ok (.invokestatic 229, 3)) ∧ (decode cX10_shown 12 = .ok (.ifCond .eq 12, 3)) ∧ (decode cX10_shown 15 = .ok (.iload_n 3, 1)) ∧ (decode cX10_shown 16 = .ok (.iconst 0, 1)) ∧ (decode cX10_shown 17 = .ok (.iconst 1, 1)) ∧ (decode cX10_shown 18 = .ok (.invokestatic 91, 3)) ∧ (decode cX10_shown 21 = .ok (.ifCond .ne 5, 3)) ∧ (decode cX10_shown 24 = .ok (.iconst (-1), 1)) ∧ (decode cX10_shown 25 = .ok (.ireturn, 1)) ∧ (decode cX10_shown 26 = .ok (.aload_n 0, 1)) ∧ (decode cX10_shown 27 = .ok (.getfield 19, 3)) := by decide +kernel
theorem dX10_shown_0 : decode cX10_shown 0 = .ok (.aload_n 0, 1) := gdX10_shown_0.1
theorem dX10_shown_1 : decode cX10_shown 1 = .ok (.iload_n 1, 1) := gdX10_shown_0.2.1
theorem dX10_shown_2 : decode cX10_shown 2 = .ok (.invokevirtual 133, 3) := gdX10_shown_0.2.2.1
theorem dX10_shown_5 : decode cX10_shown 5 = .ok (.ifCond .eq 19, 3) := gdX10_shown_0.2.2.2.1
theorem dX10_shown_8 : decode cX10_shown 8 = .ok (.iload_n 2, 1) := gdX10_shown_0.2.2.2.2.1
theorem dX10_shown_9 : decode cX10_shown 9 = .ok (.invokestatic 229, 3) := gdX10_shown_0.2.2.2.2.2.1
theorem dX10_shown_12 : decode cX10_shown 12 = .ok (.ifCond .eq 12, 3) := gdX10_shown_0.2.2.2.2.2.2.1
theorem dX10_shown_15 : decode cX10_shown 15 = .ok (.iload_n 3, 1) := gdX10_shown_0.2.2.2.2.2.2.2.1
theorem dX10_shown_16 : decode cX10_shown 16 = .ok (.iconst 0, 1) := gdX10_shown_0.2.2.2.2.2.2.2.2.1
theorem dX10_shown_17 : decode cX10_shown 17 = .ok (.iconst 1, 1) := gdX10_shown_0.2.2.2.2.2.2.2.2.2.1
theorem dX10_shown_18 : decode cX10_shown 18 = .ok (.invokestatic 91, 3) := gdX10_shown_0.2.2.2.2.2.2.2.2.2.2.1
theorem dX10_shown_21 : decode cX10_shown 21 = .ok (.ifCond .ne 5, 3) := gdX10_shown_0.2.2.2.2.2.2.2.2.2.2.2.1
theorem dX10_shown_24 : decode cX10_shown 24 = .ok (.iconst (-1), 1) := gdX10_shown_0.2.2.2.2.2.2.2.2.2.2.2.2.1
theorem dX10_shown_25 : decode cX10_shown 25 = .ok (.ireturn, 1) := gdX10_shown_0.2.2.2.2.2.2.2.2.2.2.2.2.2.1
theorem dX10_shown_26 : decode cX10_shown 26 = .ok (.aload_n 0, 1) := gdX10_shown_0.2.2.2.2.2.2.2.2.2.2.2.2.2.2.1
theorem dX10_shown_27 : decode cX10_shown 27 = .ok (.getfield 19, 3) := gdX10_shown_0.2.2.2.2.2.2.2.2.2.2.2.2.2.2.2
theorem gdX10_shown_30 : (decode cX10_shown 30 = .ok (.getfield 102, 3)) ∧ (decode cX10_shown 33 = .ok (.iload_n 1, 1)) ∧ (decode cX10_shown 34 = .ok (.iload_n 2, 1)) ∧ (decode cX10_shown 35 = .ok (.invokevirtual 232, 3)) ∧ (decode cX10_shown 38 = .ok (.lstore 4, 2)) ∧ (decode cX10_shown 40 = .ok (.iload_n 3, 1)) ∧ (decode cX10_shown 41 = .ok (.ifCond .ne 12, 3)) ∧ (decode cX10_shown 44 = .ok (.lload 4, 2)) ∧ (decode cX10_shown 46 = .ok (.ldc2_w 277, 3)) ∧ (decode cX10_shown 49 = .ok (.ldiv, 1)) ∧ (decode cX10_shown 50 = .ok (.goto 13, 3)) ∧ (decode cX10_shown 53 = .ok (.lload 4, 2)) ∧ (decode cX10_shown 55 = .ok (.ldc2_w 277, 3)) ∧ (decode cX10_shown 58 = .ok (.lrem, 1)) ∧ (decode cX10_shown 59 = .ok (.ldc2_w 145, 3)) ∧ (decode cX10_shown 62 = .ok (.ldiv, 1)) := by decide +kernel
theorem dX10_shown_30 : decode cX10_shown 30 = .ok (.getfield 102, 3) := gdX10_shown_30.1
theorem dX10_shown_33 : decode cX10_shown 33 = .ok (.iload_n 1, 1) := gdX10_shown_30.2.1
theorem dX10_shown_34 : decode cX10_shown 34 = .ok (.iload_n 2, 1) := gdX10_shown_30.2.2.1
theorem dX10_shown_35 : decode cX10_shown 35 = .ok (.invokevirtual 232, 3) := gdX10_shown_30.2.2.2.1
theorem dX10_shown_38 : decode cX10_shown 38 = .ok (.lstore 4, 2) := gdX10_shown_30.2.2.2.2.1
theorem dX10_shown_40 : decode cX10_shown 40 = .ok (.iload_n 3, 1) := gdX10_shown_30.2.2.2.2.2.1
theorem dX10_shown_41 : decode cX10_shown 41 = .ok (.ifCond .ne 12, 3) := gdX10_shown_30.2.2.2.2.2.2.1
theorem dX10_shown_44 : decode cX10_shown 44 = .ok (.lload 4, 2) := gdX10_shown_30.2.2.2.2.2.2.2.1
theorem dX10_shown_46 : decode cX10_shown 46 = .ok (.ldc2_w 277, 3) := gdX10_shown_30.2.2.2.2.2.2.2.2.1
theorem dX10_shown_49 : decode cX10_shown 49 = .ok (.ldiv, 1) := gdX10_shown_30.2.2.2.2.2.2.2.2.2.1
theorem dX10_shown_50 : decode cX10_shown 50 = .ok (.goto 13, 3) := gdX10_shown_30.2.2.2.2.2.2.2.2.2.2.1
theorem dX10_shown_53 : decode cX10_shown 53 = .ok (.lload 4, 2) := gdX10_shown_30.2.2.2.2.2.2.2.2.2.2.2.1
theorem dX10_shown_55 : decode cX10_shown 55 = .ok (.ldc2_w 277, 3) := gdX10_shown_30.2.2.2.2.2.2.2.2.2.2.2.2.1
theorem dX10_shown_58 : decode cX10_shown 58 = .ok (.lrem, 1) := gdX10_shown_30.2.2.2.2.2.2.2.2.2.2.2.2.2.1
theorem dX10_shown_59 : decode cX10_shown 59 = .ok (.ldc2_w 145, 3) := gdX10_shown_30.2.2.2.2.2.2.2.2.2.2.2.2.2.2.1
theorem dX10_shown_62 : decode cX10_shown 62 = .ok (.ldiv, 1) := gdX10_shown_30.2.2.2.2.2.2.2.2.2.2.2.2.2.2.2
theorem gdX10_shown_63 : (decode cX10_shown 63 = .ok (.l2i, 1)) ∧ (decode cX10_shown 64 = .ok (.ireturn, 1)) := by decide +kernel
theorem dX10_shown_63 : decode cX10_shown 63 = .ok (.l2i, 1) := gdX10_shown_63.1
theorem dX10_shown_64 : decode cX10_shown 64 = .ok (.ireturn, 1) := gdX10_shown_63.2
theorem gdX10_noonsIn_0 : (decode cX10_noonsIn 0 = .ok (.aload_n 0, 1)) ∧ (decode cX10_noonsIn 1 = .ok (.iload_n 1, 1)) ∧ (decode cX10_noonsIn 2 = .ok (.invokevirtual 133, 3)) ∧ (decode cX10_noonsIn 5 = .ok (.ifCond .eq 21, 3)) ∧ (decode cX10_noonsIn 8 = .ok (.iload_n 2, 1)) ∧ (decode cX10_noonsIn 9 = .ok (.invokestatic 229, 3)) ∧ (decode cX10_noonsIn 12 = .ok (.ifCond .eq 14, 3)) ∧ (decode cX10_noonsIn 15 = .ok (.iload_n 3, 1)) ∧ (decode cX10_noonsIn 16 = .ok (.iload_n 2, 1)) ∧ (decode cX10_noonsIn 17 = .ok (.sipush 9999, 3)) ∧ (decode cX10_noonsIn 20 = .ok (.invokestatic 91, 3)) ∧ (decode cX10_noonsIn 23 = .ok (.ifCond .ne 5, 3)) ∧ (decode cX10_noonsIn 26 = .ok (.iconst (-1), 1)) ∧ (decode cX10_noonsIn 27 = .ok (.ireturn, 1)) ∧ (decode cX10_noonsIn 28 = .ok (.aload_n 0, 1)) ∧ (decode cX10_noonsIn 29 = .ok (.getfield 19, 3)) := by decide +kernel
theorem dX10_noonsIn_0 : decode cX10_noonsIn 0 = .ok (.aload_n 0, 1) := gdX10_noonsIn_0.1
theorem dX10_noonsIn_1 : decode cX10_noonsIn 1 = .ok (.iload_n 1, 1) := gdX10_noonsIn_0.2.1
theorem dX10_noonsIn_2 : decode cX10_noonsIn 2 = .ok (.invokevirtual 133, 3) := gdX10_noonsIn_0.2.2.1
theorem dX10_noonsIn_5 : decode cX10_noonsIn 5 = .ok (.ifCond .eq 21, 3) := gdX10_noonsIn_0.2.2.2.1
theorem dX10_noonsIn_8 : decode cX10_noonsIn 8 = .ok (.iload_n 2, 1) := gdX10_noonsIn_0.2.2.2.2.1
theorem dX10_noonsIn_9 : decode cX10_noonsIn 9 = .ok (.invokestatic 229, 3) := gdX10_noonsIn_0.2.2.2.2.2.1
theorem dX10_noonsIn_12 : decode cX10_noonsIn 12 = .ok (.ifCond .eq 14, 3) := gdX10_noonsIn_0.2.2.2.2.2.2.1
theorem dX10_noonsIn_15 : decode cX10_noonsIn 15 = .ok (.iload_n 3, 1) := gdX10_noonsIn_0.2.2.2.2.2.2.2.1
theorem dX10_noonsIn_16 : decode cX10_noonsIn 16 = .ok (.iload_n 2, 1) := gdX10_noonsIn_0.2.2.2.2.2.2.2.2.1
theorem dX10_noonsIn_17 : decode cX10_noonsIn 17 = .ok (.sipush 9999, 3) := gdX10_noonsIn_0.2.2.2.2.2.2.2.2.2.1
theorem dX10_noonsIn_20 : decode cX10_noonsIn 20 = .ok (.invokestatic 91, 3) := gdX10_noonsIn_0.2.2.2.2.2.2.2.2.2.2.1
theorem dX10_noonsIn_23 : decode cX10_noonsIn 23 = .ok (.ifCond .ne 5, 3) := gdX10_noonsIn_0.2.2.2.2.2.2.2.2.2.2.2.1
theorem dX10_noonsIn_26 : decode cX10_noonsIn 26 = .ok (.iconst (-1), 1) := gdX10_noonsIn_0.2.2.2.2.2.2.2.2.2.2.2.2.1
theorem dX10_noonsIn_27 : decode cX10_noonsIn 27 = .ok (.ireturn, 1) := gdX10_noonsIn_0.2.2.2.2.2.2.2.2.2.2.2.2.2.1
theorem dX10_noonsIn_28 : decode cX10_noonsIn 28 = .ok (.aload_n 0, 1) := gdX10_noonsIn_0.2.2.2.2.2.2.2.2.2.2.2.2.2.2.1
theorem dX10_noonsIn_29 : decode cX10_noonsIn 29 = .ok (.getfield 19, 3) := gdX10_noonsIn_0.2.2.2.2.2.2.2.2.2.2.2.2.2.2.2
theorem gdX10_noonsIn_32 : (decode cX10_noonsIn 32 = .ok (.getfield 102, 3)) ∧ (decode cX10_noonsIn 35 = .ok (.iload_n 1, 1)) ∧ (decode cX10_noonsIn 36 = .ok (.iload_n 2, 1)) ∧ (decode cX10_noonsIn 37 = .ok (.invokevirtual 232, 3)) ∧ (decode cX10_noonsIn 40 = .ok (.lconst 1, 1)) ∧ (decode cX10_noonsIn 41 = .ok (.lsub, 1)) ∧ (decode cX10_noonsIn 42 = .ok (.lstore 4, 2)) ∧ (decode cX10_noonsIn 44 = .ok (.aload_n 0, 1)) ∧ (decode cX10_noonsIn 45 = .ok (.getfield 19, 3)) ∧ (decode cX10_noonsIn 48 = .ok (.getfield 102, 3)) ∧ (decode cX10_noonsIn 51 = .ok (.iload_n 1, 1)) ∧ (decode cX10_noonsIn 52 = .ok (.iload_n 3, 1)) ∧ (decode cX10_noonsIn 53 = .ok (.invokevirtual 232, 3)) ∧ (decode cX10_noonsIn 56 = .ok (.invokestatic 279, 3)) ∧ (decode cX10_noonsIn 59 = .ok (.lload 4, 2)) ∧ (decode cX10_noonsIn 61 = .ok (.invokestatic 279, 3)) := by decide +kernel
theorem dX10_noonsIn_32 : decode cX10_noonsIn 32 = .ok (.getfield 102, 3) := gdX10_noonsIn_32.1
theorem dX10_noonsIn_35 : decode cX10_noonsIn 35 = .ok (.iload_n 1, 1) := gdX10_noonsIn_32.2.1
theorem dX10_noonsIn_36 : decode cX10_noonsIn 36 = .ok (.iload_n 2, 1) := gdX10_noonsIn_32.2.2.1
theorem dX10_noonsIn_37 : decode cX10_noonsIn 37 = .ok (.invokevirtual 232, 3) := gdX10_noonsIn_32.2.2.2.1
theorem dX10_noonsIn_40 : decode cX10_noonsIn 40 = .ok (.lconst 1, 1) := gdX10_noonsIn_32.2.2.2.2.1
theorem dX10_noonsIn_41 : decode cX10_noonsIn 41 = .ok (.lsub, 1) := gdX10_noonsIn_32.2.2.2.2.2.1
theorem dX10_noonsIn_42 : decode cX10_noonsIn 42 = .ok (.lstore 4, 2) := gdX10_noonsIn_32.2.2.2.2.2.2.1
theorem dX10_noonsIn_44 : decode cX10_noonsIn 44 = .ok (.aload_n 0, 1) := gdX10_noonsIn_32.2.2.2.2.2.2.2.1
theorem dX10_noonsIn_45 : decode cX10_noonsIn 45 = .ok (.getfield 19, 3) := gdX10_noonsIn_32.2.2.2.2.2.2.2.2.1
theorem dX10_noonsIn_48 : decode cX10_noonsIn 48 = .ok (.getfield 102, 3) := gdX10_noonsIn_32.2.2.2.2.2.2.2.2.2.1
theorem dX10_noonsIn_51 : decode cX10_noonsIn 51 = .ok (.iload_n 1, 1) := gdX10_noonsIn_32.2.2.2.2.2.2.2.2.2.2.1
theorem dX10_noonsIn_52 : decode cX10_noonsIn 52 = .ok (.iload_n 3, 1) := gdX10_noonsIn_32.2.2.2.2.2.2.2.2.2.2.2.1
theorem dX10_noonsIn_53 : decode cX10_noonsIn 53 = .ok (.invokevirtual 232, 3) := gdX10_noonsIn_32.2.2.2.2.2.2.2.2.2.2.2.2.1
theorem dX10_noonsIn_56 : decode cX10_noonsIn 56 = .ok (.invokestatic 279, 3) := gdX10_noonsIn_32.2.2.2.2.2.2.2.2.2.2.2.2.2.1
theorem dX10_noonsIn_59 : decode cX10_noonsIn 59 = .ok (.lload 4, 2) := gdX10_noonsIn_32.2.2.2.2.2.2.2.2.2.2.2.2.2.2.1
theorem dX10_noonsIn_61 : decode cX10_noonsIn 61 = .ok (.invokestatic 279, 3) := gdX10_noonsIn_32.2.2.2.2.2.2.2.2.2.2.2.2.2.2.2
theorem gdX10_noonsIn_64 : (decode cX10_noonsIn 64 = .ok (.lsub, 1)) ∧ (decode cX10_noonsIn 65 = .ok (.l2i, 1)) ∧ (decode cX10_noonsIn 66 = .ok (.ireturn, 1)) := by decide +kernel
theorem dX10_noonsIn_64 : decode cX10_noonsIn 64 = .ok (.lsub, 1) := gdX10_noonsIn_64.1
theorem dX10_noonsIn_65 : decode cX10_noonsIn 65 = .ok (.l2i, 1) := gdX10_noonsIn_64.2.1
theorem dX10_noonsIn_66 : decode cX10_noonsIn 66 = .ok (.ireturn, 1) := gdX10_noonsIn_64.2.2
theorem gdX10_due_0 : (decode cX10_due 0 = .ok (.aload_n 0, 1)) ∧ (decode cX10_due 1 = .ok (.iload_n 1, 1)) ∧ (decode cX10_due 2 = .ok (.invokevirtual 133, 3)) ∧ (decode cX10_due 5 = .ok (.ifCond .eq 14, 3)) ∧ (decode cX10_due 8 = .ok (.iload_n 2, 1)) ∧ (decode cX10_due 9 = .ok (.iconst 0, 1)) ∧ (decode cX10_due 10 = .ok (.sipush 9999, 3)) ∧ (decode cX10_due 13 = .ok (.invokestatic 91, 3)) ∧ (decode cX10_due 16 = .ok (.ifCond .ne 5, 3)) ∧ (decode cX10_due 19 = .ok (.iconst (-1), 1)) ∧ (decode cX10_due 20 = .ok (.ireturn, 1)) ∧ (decode cX10_due 21 = .ok (.iload_n 2, 1)) ∧ (decode cX10_due 22 = .ok (.i2l, 1)) ∧ (decode cX10_due 23 = .ok (.ldc2_w 277, 3)) ∧ (decode cX10_due 26 = .ok (.lmul, 1)) ∧ (decode cX10_due 27 = .ok (.aload_n 0, 1)) := by decide +kernel
theorem dX10_due_0 : decode cX10_due 0 = .ok (.aload_n 0, 1) := gdX10_due_0.1
theorem dX10_due_1 : decode cX10_due 1 = .ok (.iload_n 1, 1) := gdX10_due_0.2.1
theorem dX10_due_2 : decode cX10_due 2 = .ok (.invokevirtual 133, 3) := gdX10_due_0.2.2.1
theorem dX10_due_5 : decode cX10_due 5 = .ok (.ifCond .eq 14, 3) := gdX10_due_0.2.2.2.1
theorem dX10_due_8 : decode cX10_due 8 = .ok (.iload_n 2, 1) := gdX10_due_0.2.2.2.2.1
theorem dX10_due_9 : decode cX10_due 9 = .ok (.iconst 0, 1) := gdX10_due_0.2.2.2.2.2.1
theorem dX10_due_10 : decode cX10_due 10 = .ok (.sipush 9999, 3) := gdX10_due_0.2.2.2.2.2.2.1
theorem dX10_due_13 : decode cX10_due 13 = .ok (.invokestatic 91, 3) := gdX10_due_0.2.2.2.2.2.2.2.1
theorem dX10_due_16 : decode cX10_due 16 = .ok (.ifCond .ne 5, 3) := gdX10_due_0.2.2.2.2.2.2.2.2.1
theorem dX10_due_19 : decode cX10_due 19 = .ok (.iconst (-1), 1) := gdX10_due_0.2.2.2.2.2.2.2.2.2.1
theorem dX10_due_20 : decode cX10_due 20 = .ok (.ireturn, 1) := gdX10_due_0.2.2.2.2.2.2.2.2.2.2.1
theorem dX10_due_21 : decode cX10_due 21 = .ok (.iload_n 2, 1) := gdX10_due_0.2.2.2.2.2.2.2.2.2.2.2.1
theorem dX10_due_22 : decode cX10_due 22 = .ok (.i2l, 1) := gdX10_due_0.2.2.2.2.2.2.2.2.2.2.2.2.1
theorem dX10_due_23 : decode cX10_due 23 = .ok (.ldc2_w 277, 3) := gdX10_due_0.2.2.2.2.2.2.2.2.2.2.2.2.2.1
theorem dX10_due_26 : decode cX10_due 26 = .ok (.lmul, 1) := gdX10_due_0.2.2.2.2.2.2.2.2.2.2.2.2.2.2.1
theorem dX10_due_27 : decode cX10_due 27 = .ok (.aload_n 0, 1) := gdX10_due_0.2.2.2.2.2.2.2.2.2.2.2.2.2.2.2
theorem gdX10_due_28 : (decode cX10_due 28 = .ok (.getfield 19, 3)) ∧ (decode cX10_due 31 = .ok (.getfield 102, 3)) ∧ (decode cX10_due 34 = .ok (.getfield 141, 3)) ∧ (decode cX10_due 37 = .ok (.iload_n 1, 1)) ∧ (decode cX10_due 38 = .ok (.laload, 1)) ∧ (decode cX10_due 39 = .ok (.invokestatic 270, 3)) ∧ (decode cX10_due 42 = .ok (.l2i, 1)) ∧ (decode cX10_due 43 = .ok (.ireturn, 1)) := by decide +kernel
theorem dX10_due_28 : decode cX10_due 28 = .ok (.getfield 19, 3) := gdX10_due_28.1
theorem dX10_due_31 : decode cX10_due 31 = .ok (.getfield 102, 3) := gdX10_due_28.2.1
theorem dX10_due_34 : decode cX10_due 34 = .ok (.getfield 141, 3) := gdX10_due_28.2.2.1
theorem dX10_due_37 : decode cX10_due 37 = .ok (.iload_n 1, 1) := gdX10_due_28.2.2.2.1
theorem dX10_due_38 : decode cX10_due 38 = .ok (.laload, 1) := gdX10_due_28.2.2.2.2.1
theorem dX10_due_39 : decode cX10_due 39 = .ok (.invokestatic 270, 3) := gdX10_due_28.2.2.2.2.2.1
theorem dX10_due_42 : decode cX10_due 42 = .ok (.l2i, 1) := gdX10_due_28.2.2.2.2.2.2.1
theorem dX10_due_43 : decode cX10_due 43 = .ok (.ireturn, 1) := gdX10_due_28.2.2.2.2.2.2.2
theorem gdX10_needed_0 : (decode cX10_needed 0 = .ok (.iconst 0, 1)) ∧ (decode cX10_needed 1 = .ok (.istore_n 1, 1)) ∧ (decode cX10_needed 2 = .ok (.iconst 0, 1)) ∧ (decode cX10_needed 3 = .ok (.istore_n 2, 1)) ∧ (decode cX10_needed 4 = .ok (.iload_n 2, 1)) ∧ (decode cX10_needed 5 = .ok (.aload_n 0, 1)) ∧ (decode cX10_needed 6 = .ok (.getfield 19, 3)) ∧ (decode cX10_needed 9 = .ok (.getfield 102, 3)) ∧ (decode cX10_needed 12 = .ok (.getfield 151, 3)) ∧ (decode cX10_needed 15 = .ok (.if_icmp .ge 29, 3)) ∧ (decode cX10_needed 18 = .ok (.aload_n 0, 1)) ∧ (decode cX10_needed 19 = .ok (.getfield 19, 3)) ∧ (decode cX10_needed 22 = .ok (.getfield 102, 3)) ∧ (decode cX10_needed 25 = .ok (.iload_n 2, 1)) ∧ (decode cX10_needed 26 = .ok (.invokevirtual 282, 3)) ∧ (decode cX10_needed 29 = .ok (.ifCond .ne 9, 3)) := by decide +kernel
theorem dX10_needed_0 : decode cX10_needed 0 = .ok (.iconst 0, 1) := gdX10_needed_0.1
theorem dX10_needed_1 : decode cX10_needed 1 = .ok (.istore_n 1, 1) := gdX10_needed_0.2.1
theorem dX10_needed_2 : decode cX10_needed 2 = .ok (.iconst 0, 1) := gdX10_needed_0.2.2.1
theorem dX10_needed_3 : decode cX10_needed 3 = .ok (.istore_n 2, 1) := gdX10_needed_0.2.2.2.1
theorem dX10_needed_4 : decode cX10_needed 4 = .ok (.iload_n 2, 1) := gdX10_needed_0.2.2.2.2.1
theorem dX10_needed_5 : decode cX10_needed 5 = .ok (.aload_n 0, 1) := gdX10_needed_0.2.2.2.2.2.1
theorem dX10_needed_6 : decode cX10_needed 6 = .ok (.getfield 19, 3) := gdX10_needed_0.2.2.2.2.2.2.1
theorem dX10_needed_9 : decode cX10_needed 9 = .ok (.getfield 102, 3) := gdX10_needed_0.2.2.2.2.2.2.2.1
theorem dX10_needed_12 : decode cX10_needed 12 = .ok (.getfield 151, 3) := gdX10_needed_0.2.2.2.2.2.2.2.2.1
theorem dX10_needed_15 : decode cX10_needed 15 = .ok (.if_icmp .ge 29, 3) := gdX10_needed_0.2.2.2.2.2.2.2.2.2.1
theorem dX10_needed_18 : decode cX10_needed 18 = .ok (.aload_n 0, 1) := gdX10_needed_0.2.2.2.2.2.2.2.2.2.2.1
theorem dX10_needed_19 : decode cX10_needed 19 = .ok (.getfield 19, 3) := gdX10_needed_0.2.2.2.2.2.2.2.2.2.2.2.1
theorem dX10_needed_22 : decode cX10_needed 22 = .ok (.getfield 102, 3) := gdX10_needed_0.2.2.2.2.2.2.2.2.2.2.2.2.1
theorem dX10_needed_25 : decode cX10_needed 25 = .ok (.iload_n 2, 1) := gdX10_needed_0.2.2.2.2.2.2.2.2.2.2.2.2.2.1
theorem dX10_needed_26 : decode cX10_needed 26 = .ok (.invokevirtual 282, 3) := gdX10_needed_0.2.2.2.2.2.2.2.2.2.2.2.2.2.2.1
theorem dX10_needed_29 : decode cX10_needed 29 = .ok (.ifCond .ne 9, 3) := gdX10_needed_0.2.2.2.2.2.2.2.2.2.2.2.2.2.2.2
theorem gdX10_needed_32 : (decode cX10_needed 32 = .ok (.iload_n 1, 1)) ∧ (decode cX10_needed 33 = .ok (.iconst 1, 1)) ∧ (decode cX10_needed 34 = .ok (.iload_n 2, 1)) ∧ (decode cX10_needed 35 = .ok (.ishl, 1)) ∧ (decode cX10_needed 36 = .ok (.ior, 1)) ∧ (decode cX10_needed 37 = .ok (.istore_n 1, 1)) ∧ (decode cX10_needed 38 = .ok (.iinc 2 1, 3)) ∧ (decode cX10_needed 41 = .ok (.goto (-37), 3)) ∧ (decode cX10_needed 44 = .ok (.iload_n 1, 1)) ∧ (decode cX10_needed 45 = .ok (.ireturn, 1)) := by decide +kernel
theorem dX10_needed_32 : decode cX10_needed 32 = .ok (.iload_n 1, 1) := gdX10_needed_32.1
theorem dX10_needed_33 : decode cX10_needed 33 = .ok (.iconst 1, 1) := gdX10_needed_32.2.1
theorem dX10_needed_34 : decode cX10_needed 34 = .ok (.iload_n 2, 1) := gdX10_needed_32.2.2.1
theorem dX10_needed_35 : decode cX10_needed 35 = .ok (.ishl, 1) := gdX10_needed_32.2.2.2.1
theorem dX10_needed_36 : decode cX10_needed 36 = .ok (.ior, 1) := gdX10_needed_32.2.2.2.2.1
theorem dX10_needed_37 : decode cX10_needed 37 = .ok (.istore_n 1, 1) := gdX10_needed_32.2.2.2.2.2.1
theorem dX10_needed_38 : decode cX10_needed 38 = .ok (.iinc 2 1, 3) := gdX10_needed_32.2.2.2.2.2.2.1
theorem dX10_needed_41 : decode cX10_needed 41 = .ok (.goto (-37), 3) := gdX10_needed_32.2.2.2.2.2.2.2.1
theorem dX10_needed_44 : decode cX10_needed 44 = .ok (.iload_n 1, 1) := gdX10_needed_32.2.2.2.2.2.2.2.2.1
theorem dX10_needed_45 : decode cX10_needed 45 = .ok (.ireturn, 1) := gdX10_needed_32.2.2.2.2.2.2.2.2.2
theorem gdX10_elder_0 : (decode cX10_elder 0 = .ok (.aload_n 0, 1)) ∧ (decode cX10_elder 1 = .ok (.iload_n 1, 1)) ∧ (decode cX10_elder 2 = .ok (.invokevirtual 197, 3)) ∧ (decode cX10_elder 5 = .ok (.ifCond .eq 14, 3)) ∧ (decode cX10_elder 8 = .ok (.iload_n 2, 1)) ∧ (decode cX10_elder 9 = .ok (.iconst 0, 1)) ∧ (decode cX10_elder 10 = .ok (.sipush 200, 3)) ∧ (decode cX10_elder 13 = .ok (.invokestatic 91, 3)) ∧ (decode cX10_elder 16 = .ok (.ifCond .ne 7, 3)) ∧ (decode cX10_elder 19 = .ok (.ldc2_w 185, 3)) ∧ (decode cX10_elder 22 = .ok (.lreturn, 1)) ∧ (decode cX10_elder 23 = .ok (.aload_n 0, 1)) ∧ (decode cX10_elder 24 = .ok (.getfield 19, 3)) ∧ (decode cX10_elder 27 = .ok (.getfield 109, 3)) ∧ (decode cX10_elder 30 = .ok (.getfield 285, 3)) ∧ (decode cX10_elder 33 = .ok (.ifCond .eq 12, 3)) := by decide +kernel
theorem dX10_elder_0 : decode cX10_elder 0 = .ok (.aload_n 0, 1) := gdX10_elder_0.1
theorem dX10_elder_1 : decode cX10_elder 1 = .ok (.iload_n 1, 1) := gdX10_elder_0.2.1
theorem dX10_elder_2 : decode cX10_elder 2 = .ok (.invokevirtual 197, 3) := gdX10_elder_0.2.2.1
theorem dX10_elder_5 : decode cX10_elder 5 = .ok (.ifCond .eq 14, 3) := gdX10_elder_0.2.2.2.1
theorem dX10_elder_8 : decode cX10_elder 8 = .ok (.iload_n 2, 1) := gdX10_elder_0.2.2.2.2.1
theorem dX10_elder_9 : decode cX10_elder 9 = .ok (.iconst 0, 1) := gdX10_elder_0.2.2.2.2.2.1
theorem dX10_elder_10 : decode cX10_elder 10 = .ok (.sipush 200, 3) := gdX10_elder_0.2.2.2.2.2.2.1
theorem dX10_elder_13 : decode cX10_elder 13 = .ok (.invokestatic 91, 3) := gdX10_elder_0.2.2.2.2.2.2.2.1
theorem dX10_elder_16 : decode cX10_elder 16 = .ok (.ifCond .ne 7, 3) := gdX10_elder_0.2.2.2.2.2.2.2.2.1
theorem dX10_elder_19 : decode cX10_elder 19 = .ok (.ldc2_w 185, 3) := gdX10_elder_0.2.2.2.2.2.2.2.2.2.1
theorem dX10_elder_22 : decode cX10_elder 22 = .ok (.lreturn, 1) := gdX10_elder_0.2.2.2.2.2.2.2.2.2.2.1
theorem dX10_elder_23 : decode cX10_elder 23 = .ok (.aload_n 0, 1) := gdX10_elder_0.2.2.2.2.2.2.2.2.2.2.2.1
theorem dX10_elder_24 : decode cX10_elder 24 = .ok (.getfield 19, 3) := gdX10_elder_0.2.2.2.2.2.2.2.2.2.2.2.2.1
theorem dX10_elder_27 : decode cX10_elder 27 = .ok (.getfield 109, 3) := gdX10_elder_0.2.2.2.2.2.2.2.2.2.2.2.2.2.1
theorem dX10_elder_30 : decode cX10_elder 30 = .ok (.getfield 285, 3) := gdX10_elder_0.2.2.2.2.2.2.2.2.2.2.2.2.2.2.1
theorem dX10_elder_33 : decode cX10_elder 33 = .ok (.ifCond .eq 12, 3) := gdX10_elder_0.2.2.2.2.2.2.2.2.2.2.2.2.2.2.2
theorem gdX10_elder_36 : (decode cX10_elder 36 = .ok (.iload_n 3, 1)) ∧ (decode cX10_elder 37 = .ok (.iconst 0, 1)) ∧ (decode cX10_elder 38 = .ok (.iconst 3, 1)) ∧ (decode cX10_elder 39 = .ok (.invokestatic 91, 3)) ∧ (decode cX10_elder 42 = .ok (.ifCond .ne 7, 3)) ∧ (decode cX10_elder 45 = .ok (.ldc2_w 185, 3)) ∧ (decode cX10_elder 48 = .ok (.lreturn, 1)) ∧ (decode cX10_elder 49 = .ok (.aload_n 0, 1)) ∧ (decode cX10_elder 50 = .ok (.iload_n 1, 1)) ∧ (decode cX10_elder 51 = .ok (.iload_n 2, 1)) ∧ (decode cX10_elder 52 = .ok (.invokevirtual 211, 3)) ∧ (decode cX10_elder 55 = .ok (.aload_n 0, 1)) ∧ (decode cX10_elder 56 = .ok (.getfield 43, 3)) ∧ (decode cX10_elder 59 = .ok (.invokevirtual 286, 3)) ∧ (decode cX10_elder 62 = .ok (.istore 4, 2)) ∧ (decode cX10_elder 64 = .ok (.aload_n 0, 1)) := by decide +kernel
theorem dX10_elder_36 : decode cX10_elder 36 = .ok (.iload_n 3, 1) := gdX10_elder_36.1
theorem dX10_elder_37 : decode cX10_elder 37 = .ok (.iconst 0, 1) := gdX10_elder_36.2.1
theorem dX10_elder_38 : decode cX10_elder 38 = .ok (.iconst 3, 1) := gdX10_elder_36.2.2.1
theorem dX10_elder_39 : decode cX10_elder 39 = .ok (.invokestatic 91, 3) := gdX10_elder_36.2.2.2.1
theorem dX10_elder_42 : decode cX10_elder 42 = .ok (.ifCond .ne 7, 3) := gdX10_elder_36.2.2.2.2.1
theorem dX10_elder_45 : decode cX10_elder 45 = .ok (.ldc2_w 185, 3) := gdX10_elder_36.2.2.2.2.2.1
theorem dX10_elder_48 : decode cX10_elder 48 = .ok (.lreturn, 1) := gdX10_elder_36.2.2.2.2.2.2.1
theorem dX10_elder_49 : decode cX10_elder 49 = .ok (.aload_n 0, 1) := gdX10_elder_36.2.2.2.2.2.2.2.1
theorem dX10_elder_50 : decode cX10_elder 50 = .ok (.iload_n 1, 1) := gdX10_elder_36.2.2.2.2.2.2.2.2.1
theorem dX10_elder_51 : decode cX10_elder 51 = .ok (.iload_n 2, 1) := gdX10_elder_36.2.2.2.2.2.2.2.2.2.1
theorem dX10_elder_52 : decode cX10_elder 52 = .ok (.invokevirtual 211, 3) := gdX10_elder_36.2.2.2.2.2.2.2.2.2.2.1
theorem dX10_elder_55 : decode cX10_elder 55 = .ok (.aload_n 0, 1) := gdX10_elder_36.2.2.2.2.2.2.2.2.2.2.2.1
theorem dX10_elder_56 : decode cX10_elder 56 = .ok (.getfield 43, 3) := gdX10_elder_36.2.2.2.2.2.2.2.2.2.2.2.2.1
theorem dX10_elder_59 : decode cX10_elder 59 = .ok (.invokevirtual 286, 3) := gdX10_elder_36.2.2.2.2.2.2.2.2.2.2.2.2.2.1
theorem dX10_elder_62 : decode cX10_elder 62 = .ok (.istore 4, 2) := gdX10_elder_36.2.2.2.2.2.2.2.2.2.2.2.2.2.2.1
theorem dX10_elder_64 : decode cX10_elder 64 = .ok (.aload_n 0, 1) := gdX10_elder_36.2.2.2.2.2.2.2.2.2.2.2.2.2.2.2
theorem gdX10_elder_65 : (decode cX10_elder 65 = .ok (.getfield 43, 3)) ∧ (decode cX10_elder 68 = .ok (.invokevirtual 289, 3)) ∧ (decode cX10_elder 71 = .ok (.istore 5, 2)) ∧ (decode cX10_elder 73 = .ok (.iload_n 3, 1)) ∧ (decode cX10_elder 74 = .ok (.iconst 2, 1)) ∧ (decode cX10_elder 75 = .ok (.if_icmp .ge 17, 3)) ∧ (decode cX10_elder 78 = .ok (.iload_n 3, 1)) ∧ (decode cX10_elder 79 = .ok (.ifCond .ne 9, 3)) ∧ (decode cX10_elder 82 = .ok (.iload 4, 2)) ∧ (decode cX10_elder 84 = .ok (.i2l, 1)) ∧ (decode cX10_elder 85 = .ok (.goto 6, 3)) ∧ (decode cX10_elder 88 = .ok (.iload 5, 2)) ∧ (decode cX10_elder 90 = .ok (.i2l, 1)) ∧ (decode cX10_elder 91 = .ok (.lreturn, 1)) ∧ (decode cX10_elder 92 = .ok (.aload_n 0, 1)) ∧ (decode cX10_elder 93 = .ok (.getfield 43, 3)) := by decide +kernel
theorem dX10_elder_65 : decode cX10_elder 65 = .ok (.getfield 43, 3) := gdX10_elder_65.1
theorem dX10_elder_68 : decode cX10_elder 68 = .ok (.invokevirtual 289, 3) := gdX10_elder_65.2.1
theorem dX10_elder_71 : decode cX10_elder 71 = .ok (.istore 5, 2) := gdX10_elder_65.2.2.1
theorem dX10_elder_73 : decode cX10_elder 73 = .ok (.iload_n 3, 1) := gdX10_elder_65.2.2.2.1
theorem dX10_elder_74 : decode cX10_elder 74 = .ok (.iconst 2, 1) := gdX10_elder_65.2.2.2.2.1
theorem dX10_elder_75 : decode cX10_elder 75 = .ok (.if_icmp .ge 17, 3) := gdX10_elder_65.2.2.2.2.2.1
theorem dX10_elder_78 : decode cX10_elder 78 = .ok (.iload_n 3, 1) := gdX10_elder_65.2.2.2.2.2.2.1
theorem dX10_elder_79 : decode cX10_elder 79 = .ok (.ifCond .ne 9, 3) := gdX10_elder_65.2.2.2.2.2.2.2.1
theorem dX10_elder_82 : decode cX10_elder 82 = .ok (.iload 4, 2) := gdX10_elder_65.2.2.2.2.2.2.2.2.1
theorem dX10_elder_84 : decode cX10_elder 84 = .ok (.i2l, 1) := gdX10_elder_65.2.2.2.2.2.2.2.2.2.1
theorem dX10_elder_85 : decode cX10_elder 85 = .ok (.goto 6, 3) := gdX10_elder_65.2.2.2.2.2.2.2.2.2.2.1
theorem dX10_elder_88 : decode cX10_elder 88 = .ok (.iload 5, 2) := gdX10_elder_65.2.2.2.2.2.2.2.2.2.2.2.1
theorem dX10_elder_90 : decode cX10_elder 90 = .ok (.i2l, 1) := gdX10_elder_65.2.2.2.2.2.2.2.2.2.2.2.2.1
theorem dX10_elder_91 : decode cX10_elder 91 = .ok (.lreturn, 1) := gdX10_elder_65.2.2.2.2.2.2.2.2.2.2.2.2.2.1
theorem dX10_elder_92 : decode cX10_elder 92 = .ok (.aload_n 0, 1) := gdX10_elder_65.2.2.2.2.2.2.2.2.2.2.2.2.2.2.1
theorem dX10_elder_93 : decode cX10_elder 93 = .ok (.getfield 43, 3) := gdX10_elder_65.2.2.2.2.2.2.2.2.2.2.2.2.2.2.2
theorem gdX10_elder_96 : (decode cX10_elder 96 = .ok (.getfield 187, 3)) ∧ (decode cX10_elder 99 = .ok (.iload 4, 2)) ∧ (decode cX10_elder 101 = .ok (.laload, 1)) ∧ (decode cX10_elder 102 = .ok (.aload_n 0, 1)) ∧ (decode cX10_elder 103 = .ok (.getfield 43, 3)) ∧ (decode cX10_elder 106 = .ok (.getfield 187, 3)) ∧ (decode cX10_elder 109 = .ok (.iload 5, 2)) ∧ (decode cX10_elder 111 = .ok (.laload, 1)) ∧ (decode cX10_elder 112 = .ok (.lsub, 1)) ∧ (decode cX10_elder 113 = .ok (.ldc2_w 145, 3)) ∧ (decode cX10_elder 116 = .ok (.iload_n 3, 1)) ∧ (decode cX10_elder 117 = .ok (.iconst 2, 1)) ∧ (decode cX10_elder 118 = .ok (.isub, 1)) ∧ (decode cX10_elder 119 = .ok (.invokestatic 147, 3)) ∧ (decode cX10_elder 122 = .ok (.lreturn, 1)) := by decide +kernel
theorem dX10_elder_96 : decode cX10_elder 96 = .ok (.getfield 187, 3) := gdX10_elder_96.1
theorem dX10_elder_99 : decode cX10_elder 99 = .ok (.iload 4, 2) := gdX10_elder_96.2.1
theorem dX10_elder_101 : decode cX10_elder 101 = .ok (.laload, 1) := gdX10_elder_96.2.2.1
theorem dX10_elder_102 : decode cX10_elder 102 = .ok (.aload_n 0, 1) := gdX10_elder_96.2.2.2.1
theorem dX10_elder_103 : decode cX10_elder 103 = .ok (.getfield 43, 3) := gdX10_elder_96.2.2.2.2.1
theorem dX10_elder_106 : decode cX10_elder 106 = .ok (.getfield 187, 3) := gdX10_elder_96.2.2.2.2.2.1
theorem dX10_elder_109 : decode cX10_elder 109 = .ok (.iload 5, 2) := gdX10_elder_96.2.2.2.2.2.2.1
theorem dX10_elder_111 : decode cX10_elder 111 = .ok (.laload, 1) := gdX10_elder_96.2.2.2.2.2.2.2.1
theorem dX10_elder_112 : decode cX10_elder 112 = .ok (.lsub, 1) := gdX10_elder_96.2.2.2.2.2.2.2.2.1
theorem dX10_elder_113 : decode cX10_elder 113 = .ok (.ldc2_w 145, 3) := gdX10_elder_96.2.2.2.2.2.2.2.2.2.1
theorem dX10_elder_116 : decode cX10_elder 116 = .ok (.iload_n 3, 1) := gdX10_elder_96.2.2.2.2.2.2.2.2.2.2.1
theorem dX10_elder_117 : decode cX10_elder 117 = .ok (.iconst 2, 1) := gdX10_elder_96.2.2.2.2.2.2.2.2.2.2.2.1
theorem dX10_elder_118 : decode cX10_elder 118 = .ok (.isub, 1) := gdX10_elder_96.2.2.2.2.2.2.2.2.2.2.2.2.1
theorem dX10_elder_119 : decode cX10_elder 119 = .ok (.invokestatic 147, 3) := gdX10_elder_96.2.2.2.2.2.2.2.2.2.2.2.2.2.1
theorem dX10_elder_122 : decode cX10_elder 122 = .ok (.lreturn, 1) := gdX10_elder_96.2.2.2.2.2.2.2.2.2.2.2.2.2.2
theorem gdX10_letter_0 : (decode cX10_letter 0 = .ok (.aload_n 0, 1)) ∧ (decode cX10_letter 1 = .ok (.getfield 19, 3)) ∧ (decode cX10_letter 4 = .ok (.getfield 115, 3)) ∧ (decode cX10_letter 7 = .ok (.astore 4, 2)) ∧ (decode cX10_letter 9 = .ok (.iload_n 1, 1)) ∧ (decode cX10_letter 10 = .ok (.iconst (-1), 1)) ∧ (decode cX10_letter 11 = .ok (.if_icmp .ne 11, 3)) ∧ (decode cX10_letter 14 = .ok (.aload 4, 2)) ∧ (decode cX10_letter 16 = .ok (.iconst 0, 1)) ∧ (decode cX10_letter 17 = .ok (.putfield 119, 3)) ∧ (decode cX10_letter 20 = .ok (.iconst 0, 1)) ∧ (decode cX10_letter 21 = .ok (.ireturn, 1)) ∧ (decode cX10_letter 22 = .ok (.aload_n 0, 1)) ∧ (decode cX10_letter 23 = .ok (.iload_n 1, 1)) ∧ (decode cX10_letter 24 = .ok (.invokevirtual 133, 3)) ∧ (decode cX10_letter 27 = .ok (.ifCond .eq 28, 3)) := by decide +kernel
theorem dX10_letter_0 : decode cX10_letter 0 = .ok (.aload_n 0, 1) := gdX10_letter_0.1
theorem dX10_letter_1 : decode cX10_letter 1 = .ok (.getfield 19, 3) := gdX10_letter_0.2.1
theorem dX10_letter_4 : decode cX10_letter 4 = .ok (.getfield 115, 3) := gdX10_letter_0.2.2.1
theorem dX10_letter_7 : decode cX10_letter 7 = .ok (.astore 4, 2) := gdX10_letter_0.2.2.2.1
theorem dX10_letter_9 : decode cX10_letter 9 = .ok (.iload_n 1, 1) := gdX10_letter_0.2.2.2.2.1
theorem dX10_letter_10 : decode cX10_letter 10 = .ok (.iconst (-1), 1) := gdX10_letter_0.2.2.2.2.2.1
theorem dX10_letter_11 : decode cX10_letter 11 = .ok (.if_icmp .ne 11, 3) := gdX10_letter_0.2.2.2.2.2.2.1
theorem dX10_letter_14 : decode cX10_letter 14 = .ok (.aload 4, 2) := gdX10_letter_0.2.2.2.2.2.2.2.1
theorem dX10_letter_16 : decode cX10_letter 16 = .ok (.iconst 0, 1) := gdX10_letter_0.2.2.2.2.2.2.2.2.1
theorem dX10_letter_17 : decode cX10_letter 17 = .ok (.putfield 119, 3) := gdX10_letter_0.2.2.2.2.2.2.2.2.2.1
theorem dX10_letter_20 : decode cX10_letter 20 = .ok (.iconst 0, 1) := gdX10_letter_0.2.2.2.2.2.2.2.2.2.2.1
theorem dX10_letter_21 : decode cX10_letter 21 = .ok (.ireturn, 1) := gdX10_letter_0.2.2.2.2.2.2.2.2.2.2.2.1
theorem dX10_letter_22 : decode cX10_letter 22 = .ok (.aload_n 0, 1) := gdX10_letter_0.2.2.2.2.2.2.2.2.2.2.2.2.1
theorem dX10_letter_23 : decode cX10_letter 23 = .ok (.iload_n 1, 1) := gdX10_letter_0.2.2.2.2.2.2.2.2.2.2.2.2.2.1
theorem dX10_letter_24 : decode cX10_letter 24 = .ok (.invokevirtual 133, 3) := gdX10_letter_0.2.2.2.2.2.2.2.2.2.2.2.2.2.2.1
theorem dX10_letter_27 : decode cX10_letter 27 = .ok (.ifCond .eq 28, 3) := gdX10_letter_0.2.2.2.2.2.2.2.2.2.2.2.2.2.2.2
theorem gdX10_letter_30 : (decode cX10_letter 30 = .ok (.aload_n 0, 1)) ∧ (decode cX10_letter 31 = .ok (.iload_n 2, 1)) ∧ (decode cX10_letter 32 = .ok (.invokevirtual 133, 3)) ∧ (decode cX10_letter 35 = .ok (.ifCond .eq 20, 3)) ∧ (decode cX10_letter 38 = .ok (.iload_n 3, 1)) ∧ (decode cX10_letter 39 = .ok (.invokestatic 229, 3)) ∧ (decode cX10_letter 42 = .ok (.ifCond .eq 13, 3)) ∧ (decode cX10_letter 45 = .ok (.aload 4, 2)) ∧ (decode cX10_letter 47 = .ok (.getfield 119, 3)) ∧ (decode cX10_letter 50 = .ok (.bipush 12, 2)) ∧ (decode cX10_letter 52 = .ok (.if_icmp .lt 6, 3)) ∧ (decode cX10_letter 55 = .ok (.bipush (-2), 2)) ∧ (decode cX10_letter 57 = .ok (.ireturn, 1)) ∧ (decode cX10_letter 58 = .ok (.aload_n 0, 1)) ∧ (decode cX10_letter 59 = .ok (.getfield 19, 3)) ∧ (decode cX10_letter 62 = .ok (.getfield 102, 3)) := by decide +kernel
theorem dX10_letter_30 : decode cX10_letter 30 = .ok (.aload_n 0, 1) := gdX10_letter_30.1
theorem dX10_letter_31 : decode cX10_letter 31 = .ok (.iload_n 2, 1) := gdX10_letter_30.2.1
theorem dX10_letter_32 : decode cX10_letter 32 = .ok (.invokevirtual 133, 3) := gdX10_letter_30.2.2.1
theorem dX10_letter_35 : decode cX10_letter 35 = .ok (.ifCond .eq 20, 3) := gdX10_letter_30.2.2.2.1
theorem dX10_letter_38 : decode cX10_letter 38 = .ok (.iload_n 3, 1) := gdX10_letter_30.2.2.2.2.1
theorem dX10_letter_39 : decode cX10_letter 39 = .ok (.invokestatic 229, 3) := gdX10_letter_30.2.2.2.2.2.1
theorem dX10_letter_42 : decode cX10_letter 42 = .ok (.ifCond .eq 13, 3) := gdX10_letter_30.2.2.2.2.2.2.1
theorem dX10_letter_45 : decode cX10_letter 45 = .ok (.aload 4, 2) := gdX10_letter_30.2.2.2.2.2.2.2.1
theorem dX10_letter_47 : decode cX10_letter 47 = .ok (.getfield 119, 3) := gdX10_letter_30.2.2.2.2.2.2.2.2.1
theorem dX10_letter_50 : decode cX10_letter 50 = .ok (.bipush 12, 2) := gdX10_letter_30.2.2.2.2.2.2.2.2.2.1
theorem dX10_letter_52 : decode cX10_letter 52 = .ok (.if_icmp .lt 6, 3) := gdX10_letter_30.2.2.2.2.2.2.2.2.2.2.1
theorem dX10_letter_55 : decode cX10_letter 55 = .ok (.bipush (-2), 2) := gdX10_letter_30.2.2.2.2.2.2.2.2.2.2.2.1
theorem dX10_letter_57 : decode cX10_letter 57 = .ok (.ireturn, 1) := gdX10_letter_30.2.2.2.2.2.2.2.2.2.2.2.2.1
theorem dX10_letter_58 : decode cX10_letter 58 = .ok (.aload_n 0, 1) := gdX10_letter_30.2.2.2.2.2.2.2.2.2.2.2.2.2.1
theorem dX10_letter_59 : decode cX10_letter 59 = .ok (.getfield 19, 3) := gdX10_letter_30.2.2.2.2.2.2.2.2.2.2.2.2.2.2.1
theorem dX10_letter_62 : decode cX10_letter 62 = .ok (.getfield 102, 3) := gdX10_letter_30.2.2.2.2.2.2.2.2.2.2.2.2.2.2.2
theorem gdX10_letter_65 : (decode cX10_letter 65 = .ok (.iload_n 1, 1)) ∧ (decode cX10_letter 66 = .ok (.iload_n 2, 1)) ∧ (decode cX10_letter 67 = .ok (.invokevirtual 222, 3)) ∧ (decode cX10_letter 70 = .ok (.istore 5, 2)) ∧ (decode cX10_letter 72 = .ok (.iload 5, 2)) ∧ (decode cX10_letter 74 = .ok (.ifCond .ge 6, 3)) ∧ (decode cX10_letter 77 = .ok (.bipush (-2), 2)) ∧ (decode cX10_letter 79 = .ok (.ireturn, 1)) ∧ (decode cX10_letter 80 = .ok (.aload 4, 2)) ∧ (decode cX10_letter 82 = .ok (.iload_n 1, 1)) ∧ (decode cX10_letter 83 = .ok (.iload_n 2, 1)) ∧ (decode cX10_letter 84 = .ok (.iload_n 3, 1)) ∧ (decode cX10_letter 85 = .ok (.iload_n 3, 1)) ∧ (decode cX10_letter 86 = .ok (.iload 5, 2)) ∧ (decode cX10_letter 88 = .ok (.iadd, 1)) ∧ (decode cX10_letter 89 = .ok (.invokevirtual 292, 3)) := by decide +kernel
theorem dX10_letter_65 : decode cX10_letter 65 = .ok (.iload_n 1, 1) := gdX10_letter_65.1
theorem dX10_letter_66 : decode cX10_letter 66 = .ok (.iload_n 2, 1) := gdX10_letter_65.2.1
theorem dX10_letter_67 : decode cX10_letter 67 = .ok (.invokevirtual 222, 3) := gdX10_letter_65.2.2.1
theorem dX10_letter_70 : decode cX10_letter 70 = .ok (.istore 5, 2) := gdX10_letter_65.2.2.2.1
theorem dX10_letter_72 : decode cX10_letter 72 = .ok (.iload 5, 2) := gdX10_letter_65.2.2.2.2.1
theorem dX10_letter_74 : decode cX10_letter 74 = .ok (.ifCond .ge 6, 3) := gdX10_letter_65.2.2.2.2.2.1
theorem dX10_letter_77 : decode cX10_letter 77 = .ok (.bipush (-2), 2) := gdX10_letter_65.2.2.2.2.2.2.1
theorem dX10_letter_79 : decode cX10_letter 79 = .ok (.ireturn, 1) := gdX10_letter_65.2.2.2.2.2.2.2.1
theorem dX10_letter_80 : decode cX10_letter 80 = .ok (.aload 4, 2) := gdX10_letter_65.2.2.2.2.2.2.2.2.1
theorem dX10_letter_82 : decode cX10_letter 82 = .ok (.iload_n 1, 1) := gdX10_letter_65.2.2.2.2.2.2.2.2.2.1
theorem dX10_letter_83 : decode cX10_letter 83 = .ok (.iload_n 2, 1) := gdX10_letter_65.2.2.2.2.2.2.2.2.2.2.1
theorem dX10_letter_84 : decode cX10_letter 84 = .ok (.iload_n 3, 1) := gdX10_letter_65.2.2.2.2.2.2.2.2.2.2.2.1
theorem dX10_letter_85 : decode cX10_letter 85 = .ok (.iload_n 3, 1) := gdX10_letter_65.2.2.2.2.2.2.2.2.2.2.2.2.1
theorem dX10_letter_86 : decode cX10_letter 86 = .ok (.iload 5, 2) := gdX10_letter_65.2.2.2.2.2.2.2.2.2.2.2.2.2.1
theorem dX10_letter_88 : decode cX10_letter 88 = .ok (.iadd, 1) := gdX10_letter_65.2.2.2.2.2.2.2.2.2.2.2.2.2.2.1
theorem dX10_letter_89 : decode cX10_letter 89 = .ok (.invokevirtual 292, 3) := gdX10_letter_65.2.2.2.2.2.2.2.2.2.2.2.2.2.2.2
theorem gdX10_letter_92 : (decode cX10_letter 92 = .ok (.aload 4, 2)) ∧ (decode cX10_letter 94 = .ok (.getfield 119, 3)) ∧ (decode cX10_letter 97 = .ok (.ireturn, 1)) := by decide +kernel
theorem dX10_letter_92 : decode cX10_letter 92 = .ok (.aload 4, 2) := gdX10_letter_92.1
theorem dX10_letter_94 : decode cX10_letter 94 = .ok (.getfield 119, 3) := gdX10_letter_92.2.1
theorem dX10_letter_97 : decode cX10_letter 97 = .ok (.ireturn, 1) := gdX10_letter_92.2.2
theorem gdX10_letters_0 : (decode cX10_letters 0 = .ok (.aload_n 0, 1)) ∧ (decode cX10_letters 1 = .ok (.getfield 19, 3)) ∧ (decode cX10_letters 4 = .ok (.getfield 115, 3)) ∧ (decode cX10_letters 7 = .ok (.astore_n 3, 1)) ∧ (decode cX10_letters 8 = .ok (.iload_n 1, 1)) ∧ (decode cX10_letters 9 = .ok (.iconst 0, 1)) ∧ (decode cX10_letters 10 = .ok (.aload_n 3, 1)) ∧ (decode cX10_letters 11 = .ok (.getfield 119, 3)) ∧ (decode cX10_letters 14 = .ok (.iconst 1, 1)) ∧ (decode cX10_letters 15 = .ok (.isub, 1)) ∧ (decode cX10_letters 16 = .ok (.invokestatic 91, 3)) ∧ (decode cX10_letters 19 = .ok (.ifCond .eq 12, 3)) ∧ (decode cX10_letters 22 = .ok (.iload_n 2, 1)) ∧ (decode cX10_letters 23 = .ok (.iconst 0, 1)) ∧ (decode cX10_letters 24 = .ok (.iconst 4, 1)) ∧ (decode cX10_letters 25 = .ok (.invokestatic 91, 3)) := by decide +kernel
theorem dX10_letters_0 : decode cX10_letters 0 = .ok (.aload_n 0, 1) := gdX10_letters_0.1
theorem dX10_letters_1 : decode cX10_letters 1 = .ok (.getfield 19, 3) := gdX10_letters_0.2.1
theorem dX10_letters_4 : decode cX10_letters 4 = .ok (.getfield 115, 3) := gdX10_letters_0.2.2.1
theorem dX10_letters_7 : decode cX10_letters 7 = .ok (.astore_n 3, 1) := gdX10_letters_0.2.2.2.1
theorem dX10_letters_8 : decode cX10_letters 8 = .ok (.iload_n 1, 1) := gdX10_letters_0.2.2.2.2.1
theorem dX10_letters_9 : decode cX10_letters 9 = .ok (.iconst 0, 1) := gdX10_letters_0.2.2.2.2.2.1
theorem dX10_letters_10 : decode cX10_letters 10 = .ok (.aload_n 3, 1) := gdX10_letters_0.2.2.2.2.2.2.1
theorem dX10_letters_11 : decode cX10_letters 11 = .ok (.getfield 119, 3) := gdX10_letters_0.2.2.2.2.2.2.2.1
theorem dX10_letters_14 : decode cX10_letters 14 = .ok (.iconst 1, 1) := gdX10_letters_0.2.2.2.2.2.2.2.2.1
theorem dX10_letters_15 : decode cX10_letters 15 = .ok (.isub, 1) := gdX10_letters_0.2.2.2.2.2.2.2.2.2.1
theorem dX10_letters_16 : decode cX10_letters 16 = .ok (.invokestatic 91, 3) := gdX10_letters_0.2.2.2.2.2.2.2.2.2.2.1
theorem dX10_letters_19 : decode cX10_letters 19 = .ok (.ifCond .eq 12, 3) := gdX10_letters_0.2.2.2.2.2.2.2.2.2.2.2.1
theorem dX10_letters_22 : decode cX10_letters 22 = .ok (.iload_n 2, 1) := gdX10_letters_0.2.2.2.2.2.2.2.2.2.2.2.2.1
theorem dX10_letters_23 : decode cX10_letters 23 = .ok (.iconst 0, 1) := gdX10_letters_0.2.2.2.2.2.2.2.2.2.2.2.2.2.1
theorem dX10_letters_24 : decode cX10_letters 24 = .ok (.iconst 4, 1) := gdX10_letters_0.2.2.2.2.2.2.2.2.2.2.2.2.2.2.1
theorem dX10_letters_25 : decode cX10_letters 25 = .ok (.invokestatic 91, 3) := gdX10_letters_0.2.2.2.2.2.2.2.2.2.2.2.2.2.2.2
theorem gdX10_letters_28 : (decode cX10_letters 28 = .ok (.ifCond .ne 5, 3)) ∧ (decode cX10_letters 31 = .ok (.iconst (-1), 1)) ∧ (decode cX10_letters 32 = .ok (.ireturn, 1)) ∧ (decode cX10_letters 33 = .ok (.iload_n 2, 1)) ∧ (decode cX10_letters 34 = .ok (.tableswitch 58 0 3 #[30, 37, 44, 51], 30)) ∧ (decode cX10_letters 64 = .ok (.aload_n 3, 1)) ∧ (decode cX10_letters 65 = .ok (.getfield 296, 3)) ∧ (decode cX10_letters 68 = .ok (.iload_n 1, 1)) ∧ (decode cX10_letters 69 = .ok (.iaload, 1)) ∧ (decode cX10_letters 70 = .ok (.ireturn, 1)) ∧ (decode cX10_letters 71 = .ok (.aload_n 3, 1)) ∧ (decode cX10_letters 72 = .ok (.getfield 299, 3)) ∧ (decode cX10_letters 75 = .ok (.iload_n 1, 1)) ∧ (decode cX10_letters 76 = .ok (.iaload, 1)) ∧ (decode cX10_letters 77 = .ok (.ireturn, 1)) ∧ (decode cX10_letters 78 = .ok (.aload_n 3, 1)) := by decide +kernel
theorem dX10_letters_28 : decode cX10_letters 28 = .ok (.ifCond .ne 5, 3) := gdX10_letters_28.1
theorem dX10_letters_31 : decode cX10_letters 31 = .ok (.iconst (-1), 1) := gdX10_letters_28.2.1
theorem dX10_letters_32 : decode cX10_letters 32 = .ok (.ireturn, 1) := gdX10_letters_28.2.2.1
theorem dX10_letters_33 : decode cX10_letters 33 = .ok (.iload_n 2, 1) := gdX10_letters_28.2.2.2.1
theorem dX10_letters_34 : decode cX10_letters 34 = .ok (.tableswitch 58 0 3 #[30, 37, 44, 51], 30) := gdX10_letters_28.2.2.2.2.1
theorem dX10_letters_64 : decode cX10_letters 64 = .ok (.aload_n 3, 1) := gdX10_letters_28.2.2.2.2.2.1
theorem dX10_letters_65 : decode cX10_letters 65 = .ok (.getfield 296, 3) := gdX10_letters_28.2.2.2.2.2.2.1
theorem dX10_letters_68 : decode cX10_letters 68 = .ok (.iload_n 1, 1) := gdX10_letters_28.2.2.2.2.2.2.2.1
theorem dX10_letters_69 : decode cX10_letters 69 = .ok (.iaload, 1) := gdX10_letters_28.2.2.2.2.2.2.2.2.1
theorem dX10_letters_70 : decode cX10_letters 70 = .ok (.ireturn, 1) := gdX10_letters_28.2.2.2.2.2.2.2.2.2.1
theorem dX10_letters_71 : decode cX10_letters 71 = .ok (.aload_n 3, 1) := gdX10_letters_28.2.2.2.2.2.2.2.2.2.2.1
theorem dX10_letters_72 : decode cX10_letters 72 = .ok (.getfield 299, 3) := gdX10_letters_28.2.2.2.2.2.2.2.2.2.2.2.1
theorem dX10_letters_75 : decode cX10_letters 75 = .ok (.iload_n 1, 1) := gdX10_letters_28.2.2.2.2.2.2.2.2.2.2.2.2.1
theorem dX10_letters_76 : decode cX10_letters 76 = .ok (.iaload, 1) := gdX10_letters_28.2.2.2.2.2.2.2.2.2.2.2.2.2.1
theorem dX10_letters_77 : decode cX10_letters 77 = .ok (.ireturn, 1) := gdX10_letters_28.2.2.2.2.2.2.2.2.2.2.2.2.2.2.1
theorem dX10_letters_78 : decode cX10_letters 78 = .ok (.aload_n 3, 1) := gdX10_letters_28.2.2.2.2.2.2.2.2.2.2.2.2.2.2.2
theorem gdX10_letters_79 : (decode cX10_letters 79 = .ok (.getfield 302, 3)) ∧ (decode cX10_letters 82 = .ok (.iload_n 1, 1)) ∧ (decode cX10_letters 83 = .ok (.iaload, 1)) ∧ (decode cX10_letters 84 = .ok (.ireturn, 1)) ∧ (decode cX10_letters 85 = .ok (.aload_n 3, 1)) ∧ (decode cX10_letters 86 = .ok (.getfield 305, 3)) ∧ (decode cX10_letters 89 = .ok (.iload_n 1, 1)) ∧ (decode cX10_letters 90 = .ok (.iaload, 1)) ∧ (decode cX10_letters 91 = .ok (.ireturn, 1)) ∧ (decode cX10_letters 92 = .ok (.aload_n 3, 1)) ∧ (decode cX10_letters 93 = .ok (.aload_n 0, 1)) ∧ (decode cX10_letters 94 = .ok (.getfield 19, 3)) ∧ (decode cX10_letters 97 = .ok (.getfield 102, 3)) ∧ (decode cX10_letters 100 = .ok (.iload_n 1, 1)) ∧ (decode cX10_letters 101 = .ok (.invokevirtual 308, 3)) ∧ (decode cX10_letters 104 = .ok (.ifCond .eq 7, 3)) := by decide +kernel
theorem dX10_letters_79 : decode cX10_letters 79 = .ok (.getfield 302, 3) := gdX10_letters_79.1
theorem dX10_letters_82 : decode cX10_letters 82 = .ok (.iload_n 1, 1) := gdX10_letters_79.2.1
theorem dX10_letters_83 : decode cX10_letters 83 = .ok (.iaload, 1) := gdX10_letters_79.2.2.1
theorem dX10_letters_84 : decode cX10_letters 84 = .ok (.ireturn, 1) := gdX10_letters_79.2.2.2.1
theorem dX10_letters_85 : decode cX10_letters 85 = .ok (.aload_n 3, 1) := gdX10_letters_79.2.2.2.2.1
theorem dX10_letters_86 : decode cX10_letters 86 = .ok (.getfield 305, 3) := gdX10_letters_79.2.2.2.2.2.1
theorem dX10_letters_89 : decode cX10_letters 89 = .ok (.iload_n 1, 1) := gdX10_letters_79.2.2.2.2.2.2.1
theorem dX10_letters_90 : decode cX10_letters 90 = .ok (.iaload, 1) := gdX10_letters_79.2.2.2.2.2.2.2.1
theorem dX10_letters_91 : decode cX10_letters 91 = .ok (.ireturn, 1) := gdX10_letters_79.2.2.2.2.2.2.2.2.1
theorem dX10_letters_92 : decode cX10_letters 92 = .ok (.aload_n 3, 1) := gdX10_letters_79.2.2.2.2.2.2.2.2.2.1
theorem dX10_letters_93 : decode cX10_letters 93 = .ok (.aload_n 0, 1) := gdX10_letters_79.2.2.2.2.2.2.2.2.2.2.1
theorem dX10_letters_94 : decode cX10_letters 94 = .ok (.getfield 19, 3) := gdX10_letters_79.2.2.2.2.2.2.2.2.2.2.2.1
theorem dX10_letters_97 : decode cX10_letters 97 = .ok (.getfield 102, 3) := gdX10_letters_79.2.2.2.2.2.2.2.2.2.2.2.2.1
theorem dX10_letters_100 : decode cX10_letters 100 = .ok (.iload_n 1, 1) := gdX10_letters_79.2.2.2.2.2.2.2.2.2.2.2.2.2.1
theorem dX10_letters_101 : decode cX10_letters 101 = .ok (.invokevirtual 308, 3) := gdX10_letters_79.2.2.2.2.2.2.2.2.2.2.2.2.2.2.1
theorem dX10_letters_104 : decode cX10_letters 104 = .ok (.ifCond .eq 7, 3) := gdX10_letters_79.2.2.2.2.2.2.2.2.2.2.2.2.2.2.2
theorem gdX10_letters_107 : (decode cX10_letters 107 = .ok (.iconst 1, 1)) ∧ (decode cX10_letters 108 = .ok (.goto 4, 3)) ∧ (decode cX10_letters 111 = .ok (.iconst 0, 1)) ∧ (decode cX10_letters 112 = .ok (.ireturn, 1)) := by decide +kernel
theorem dX10_letters_107 : decode cX10_letters 107 = .ok (.iconst 1, 1) := gdX10_letters_107.1
theorem dX10_letters_108 : decode cX10_letters 108 = .ok (.goto 4, 3) := gdX10_letters_107.2.1
theorem dX10_letters_111 : decode cX10_letters 111 = .ok (.iconst 0, 1) := gdX10_letters_107.2.2.1
theorem dX10_letters_112 : decode cX10_letters 112 = .ok (.ireturn, 1) := gdX10_letters_107.2.2.2
theorem gdX10_crossed_0 : (decode cX10_crossed 0 = .ok (.iconst 0, 1)) ∧ (decode cX10_crossed 1 = .ok (.istore_n 1, 1)) ∧ (decode cX10_crossed 2 = .ok (.iconst 0, 1)) ∧ (decode cX10_crossed 3 = .ok (.istore_n 2, 1)) ∧ (decode cX10_crossed 4 = .ok (.iload_n 2, 1)) ∧ (decode cX10_crossed 5 = .ok (.aload_n 0, 1)) ∧ (decode cX10_crossed 6 = .ok (.getfield 19, 3)) ∧ (decode cX10_crossed 9 = .ok (.getfield 115, 3)) ∧ (decode cX10_crossed 12 = .ok (.getfield 119, 3)) ∧ (decode cX10_crossed 15 = .ok (.if_icmp .ge 56, 3)) ∧ (decode cX10_crossed 18 = .ok (.iconst 0, 1)) ∧ (decode cX10_crossed 19 = .ok (.istore_n 3, 1)) ∧ (decode cX10_crossed 20 = .ok (.iload_n 3, 1)) ∧ (decode cX10_crossed 21 = .ok (.aload_n 0, 1)) ∧ (decode cX10_crossed 22 = .ok (.getfield 19, 3)) ∧ (decode cX10_crossed 25 = .ok (.getfield 115, 3)) := by decide +kernel
theorem dX10_crossed_0 : decode cX10_crossed 0 = .ok (.iconst 0, 1) := gdX10_crossed_0.1
theorem dX10_crossed_1 : decode cX10_crossed 1 = .ok (.istore_n 1, 1) := gdX10_crossed_0.2.1
theorem dX10_crossed_2 : decode cX10_crossed 2 = .ok (.iconst 0, 1) := gdX10_crossed_0.2.2.1
theorem dX10_crossed_3 : decode cX10_crossed 3 = .ok (.istore_n 2, 1) := gdX10_crossed_0.2.2.2.1
theorem dX10_crossed_4 : decode cX10_crossed 4 = .ok (.iload_n 2, 1) := gdX10_crossed_0.2.2.2.2.1
theorem dX10_crossed_5 : decode cX10_crossed 5 = .ok (.aload_n 0, 1) := gdX10_crossed_0.2.2.2.2.2.1
theorem dX10_crossed_6 : decode cX10_crossed 6 = .ok (.getfield 19, 3) := gdX10_crossed_0.2.2.2.2.2.2.1
theorem dX10_crossed_9 : decode cX10_crossed 9 = .ok (.getfield 115, 3) := gdX10_crossed_0.2.2.2.2.2.2.2.1
theorem dX10_crossed_12 : decode cX10_crossed 12 = .ok (.getfield 119, 3) := gdX10_crossed_0.2.2.2.2.2.2.2.2.1
theorem dX10_crossed_15 : decode cX10_crossed 15 = .ok (.if_icmp .ge 56, 3) := gdX10_crossed_0.2.2.2.2.2.2.2.2.2.1
theorem dX10_crossed_18 : decode cX10_crossed 18 = .ok (.iconst 0, 1) := gdX10_crossed_0.2.2.2.2.2.2.2.2.2.2.1
theorem dX10_crossed_19 : decode cX10_crossed 19 = .ok (.istore_n 3, 1) := gdX10_crossed_0.2.2.2.2.2.2.2.2.2.2.2.1
theorem dX10_crossed_20 : decode cX10_crossed 20 = .ok (.iload_n 3, 1) := gdX10_crossed_0.2.2.2.2.2.2.2.2.2.2.2.2.1
theorem dX10_crossed_21 : decode cX10_crossed 21 = .ok (.aload_n 0, 1) := gdX10_crossed_0.2.2.2.2.2.2.2.2.2.2.2.2.2.1
theorem dX10_crossed_22 : decode cX10_crossed 22 = .ok (.getfield 19, 3) := gdX10_crossed_0.2.2.2.2.2.2.2.2.2.2.2.2.2.2.1
theorem dX10_crossed_25 : decode cX10_crossed 25 = .ok (.getfield 115, 3) := gdX10_crossed_0.2.2.2.2.2.2.2.2.2.2.2.2.2.2.2
theorem gdX10_crossed_28 : (decode cX10_crossed 28 = .ok (.getfield 119, 3)) ∧ (decode cX10_crossed 31 = .ok (.if_icmp .ge 34, 3)) ∧ (decode cX10_crossed 34 = .ok (.aload_n 0, 1)) ∧ (decode cX10_crossed 35 = .ok (.getfield 19, 3)) ∧ (decode cX10_crossed 38 = .ok (.getfield 115, 3)) ∧ (decode cX10_crossed 41 = .ok (.aload_n 0, 1)) ∧ (decode cX10_crossed 42 = .ok (.getfield 19, 3)) ∧ (decode cX10_crossed 45 = .ok (.getfield 102, 3)) ∧ (decode cX10_crossed 48 = .ok (.iload_n 2, 1)) ∧ (decode cX10_crossed 49 = .ok (.iload_n 3, 1)) ∧ (decode cX10_crossed 50 = .ok (.invokevirtual 312, 3)) ∧ (decode cX10_crossed 53 = .ok (.ifCond .eq 6, 3)) ∧ (decode cX10_crossed 56 = .ok (.iinc 1 1, 3)) ∧ (decode cX10_crossed 59 = .ok (.iinc 3 1, 3)) ∧ (decode cX10_crossed 62 = .ok (.goto (-42), 3)) ∧ (decode cX10_crossed 65 = .ok (.iinc 2 1, 3)) := by decide +kernel
theorem dX10_crossed_28 : decode cX10_crossed 28 = .ok (.getfield 119, 3) := gdX10_crossed_28.1
theorem dX10_crossed_31 : decode cX10_crossed 31 = .ok (.if_icmp .ge 34, 3) := gdX10_crossed_28.2.1
theorem dX10_crossed_34 : decode cX10_crossed 34 = .ok (.aload_n 0, 1) := gdX10_crossed_28.2.2.1
theorem dX10_crossed_35 : decode cX10_crossed 35 = .ok (.getfield 19, 3) := gdX10_crossed_28.2.2.2.1
theorem dX10_crossed_38 : decode cX10_crossed 38 = .ok (.getfield 115, 3) := gdX10_crossed_28.2.2.2.2.1
theorem dX10_crossed_41 : decode cX10_crossed 41 = .ok (.aload_n 0, 1) := gdX10_crossed_28.2.2.2.2.2.1
theorem dX10_crossed_42 : decode cX10_crossed 42 = .ok (.getfield 19, 3) := gdX10_crossed_28.2.2.2.2.2.2.1
theorem dX10_crossed_45 : decode cX10_crossed 45 = .ok (.getfield 102, 3) := gdX10_crossed_28.2.2.2.2.2.2.2.1
theorem dX10_crossed_48 : decode cX10_crossed 48 = .ok (.iload_n 2, 1) := gdX10_crossed_28.2.2.2.2.2.2.2.2.1
theorem dX10_crossed_49 : decode cX10_crossed 49 = .ok (.iload_n 3, 1) := gdX10_crossed_28.2.2.2.2.2.2.2.2.2.1
theorem dX10_crossed_50 : decode cX10_crossed 50 = .ok (.invokevirtual 312, 3) := gdX10_crossed_28.2.2.2.2.2.2.2.2.2.2.1
theorem dX10_crossed_53 : decode cX10_crossed 53 = .ok (.ifCond .eq 6, 3) := gdX10_crossed_28.2.2.2.2.2.2.2.2.2.2.2.1
theorem dX10_crossed_56 : decode cX10_crossed 56 = .ok (.iinc 1 1, 3) := gdX10_crossed_28.2.2.2.2.2.2.2.2.2.2.2.2.1
theorem dX10_crossed_59 : decode cX10_crossed 59 = .ok (.iinc 3 1, 3) := gdX10_crossed_28.2.2.2.2.2.2.2.2.2.2.2.2.2.1
theorem dX10_crossed_62 : decode cX10_crossed 62 = .ok (.goto (-42), 3) := gdX10_crossed_28.2.2.2.2.2.2.2.2.2.2.2.2.2.2.1
theorem dX10_crossed_65 : decode cX10_crossed 65 = .ok (.iinc 2 1, 3) := gdX10_crossed_28.2.2.2.2.2.2.2.2.2.2.2.2.2.2.2
theorem gdX10_crossed_68 : (decode cX10_crossed 68 = .ok (.goto (-64), 3)) ∧ (decode cX10_crossed 71 = .ok (.iload_n 1, 1)) ∧ (decode cX10_crossed 72 = .ok (.ireturn, 1)) := by decide +kernel
theorem dX10_crossed_68 : decode cX10_crossed 68 = .ok (.goto (-64), 3) := gdX10_crossed_68.1
theorem dX10_crossed_71 : decode cX10_crossed 71 = .ok (.iload_n 1, 1) := gdX10_crossed_68.2.1
theorem dX10_crossed_72 : decode cX10_crossed 72 = .ok (.ireturn, 1) := gdX10_crossed_68.2.2
theorem gdX10_order_0 : (decode cX10_order 0 = .ok (.iload_n 1, 1)) ∧ (decode cX10_order 1 = .ok (.iconst 0, 1)) ∧ (decode cX10_order 2 = .ok (.aload_n 0, 1)) ∧ (decode cX10_order 3 = .ok (.getfield 19, 3)) ∧ (decode cX10_order 6 = .ok (.getfield 115, 3)) ∧ (decode cX10_order 9 = .ok (.getfield 119, 3)) ∧ (decode cX10_order 12 = .ok (.iconst 1, 1)) ∧ (decode cX10_order 13 = .ok (.isub, 1)) ∧ (decode cX10_order 14 = .ok (.invokestatic 91, 3)) ∧ (decode cX10_order 17 = .ok (.ifCond .ne 5, 3)) ∧ (decode cX10_order 20 = .ok (.iconst (-1), 1)) ∧ (decode cX10_order 21 = .ok (.ireturn, 1)) ∧ (decode cX10_order 22 = .ok (.iconst 0, 1)) ∧ (decode cX10_order 23 = .ok (.istore_n 2, 1)) ∧ (decode cX10_order 24 = .ok (.iload_n 2, 1)) ∧ (decode cX10_order 25 = .ok (.aload_n 0, 1)) := by decide +kernel
theorem dX10_order_0 : decode cX10_order 0 = .ok (.iload_n 1, 1) := gdX10_order_0.1
theorem dX10_order_1 : decode cX10_order 1 = .ok (.iconst 0, 1) := gdX10_order_0.2.1
theorem dX10_order_2 : decode cX10_order 2 = .ok (.aload_n 0, 1) := gdX10_order_0.2.2.1
theorem dX10_order_3 : decode cX10_order 3 = .ok (.getfield 19, 3) := gdX10_order_0.2.2.2.1
theorem dX10_order_6 : decode cX10_order 6 = .ok (.getfield 115, 3) := gdX10_order_0.2.2.2.2.1
theorem dX10_order_9 : decode cX10_order 9 = .ok (.getfield 119, 3) := gdX10_order_0.2.2.2.2.2.1
theorem dX10_order_12 : decode cX10_order 12 = .ok (.iconst 1, 1) := gdX10_order_0.2.2.2.2.2.2.1
theorem dX10_order_13 : decode cX10_order 13 = .ok (.isub, 1) := gdX10_order_0.2.2.2.2.2.2.2.1
theorem dX10_order_14 : decode cX10_order 14 = .ok (.invokestatic 91, 3) := gdX10_order_0.2.2.2.2.2.2.2.2.1
theorem dX10_order_17 : decode cX10_order 17 = .ok (.ifCond .ne 5, 3) := gdX10_order_0.2.2.2.2.2.2.2.2.2.1
theorem dX10_order_20 : decode cX10_order 20 = .ok (.iconst (-1), 1) := gdX10_order_0.2.2.2.2.2.2.2.2.2.2.1
theorem dX10_order_21 : decode cX10_order 21 = .ok (.ireturn, 1) := gdX10_order_0.2.2.2.2.2.2.2.2.2.2.2.1
theorem dX10_order_22 : decode cX10_order 22 = .ok (.iconst 0, 1) := gdX10_order_0.2.2.2.2.2.2.2.2.2.2.2.2.1
theorem dX10_order_23 : decode cX10_order 23 = .ok (.istore_n 2, 1) := gdX10_order_0.2.2.2.2.2.2.2.2.2.2.2.2.2.1
theorem dX10_order_24 : decode cX10_order 24 = .ok (.iload_n 2, 1) := gdX10_order_0.2.2.2.2.2.2.2.2.2.2.2.2.2.2.1
theorem dX10_order_25 : decode cX10_order 25 = .ok (.aload_n 0, 1) := gdX10_order_0.2.2.2.2.2.2.2.2.2.2.2.2.2.2.2
theorem gdX10_order_26 : (decode cX10_order 26 = .ok (.getfield 19, 3)) ∧ (decode cX10_order 29 = .ok (.getfield 115, 3)) ∧ (decode cX10_order 32 = .ok (.getfield 119, 3)) ∧ (decode cX10_order 35 = .ok (.if_icmp .ge 26, 3)) ∧ (decode cX10_order 38 = .ok (.aload_n 0, 1)) ∧ (decode cX10_order 39 = .ok (.getfield 19, 3)) ∧ (decode cX10_order 42 = .ok (.getfield 115, 3)) ∧ (decode cX10_order 45 = .ok (.iload_n 2, 1)) ∧ (decode cX10_order 46 = .ok (.invokevirtual 315, 3)) ∧ (decode cX10_order 49 = .ok (.iload_n 1, 1)) ∧ (decode cX10_order 50 = .ok (.if_icmp .ne 5, 3)) ∧ (decode cX10_order 53 = .ok (.iload_n 2, 1)) ∧ (decode cX10_order 54 = .ok (.ireturn, 1)) ∧ (decode cX10_order 55 = .ok (.iinc 2 1, 3)) ∧ (decode cX10_order 58 = .ok (.goto (-34), 3)) ∧ (decode cX10_order 61 = .ok (.iconst (-1), 1)) := by decide +kernel
theorem dX10_order_26 : decode cX10_order 26 = .ok (.getfield 19, 3) := gdX10_order_26.1
theorem dX10_order_29 : decode cX10_order 29 = .ok (.getfield 115, 3) := gdX10_order_26.2.1
theorem dX10_order_32 : decode cX10_order 32 = .ok (.getfield 119, 3) := gdX10_order_26.2.2.1
theorem dX10_order_35 : decode cX10_order 35 = .ok (.if_icmp .ge 26, 3) := gdX10_order_26.2.2.2.1
theorem dX10_order_38 : decode cX10_order 38 = .ok (.aload_n 0, 1) := gdX10_order_26.2.2.2.2.1
theorem dX10_order_39 : decode cX10_order 39 = .ok (.getfield 19, 3) := gdX10_order_26.2.2.2.2.2.1
theorem dX10_order_42 : decode cX10_order 42 = .ok (.getfield 115, 3) := gdX10_order_26.2.2.2.2.2.2.1
theorem dX10_order_45 : decode cX10_order 45 = .ok (.iload_n 2, 1) := gdX10_order_26.2.2.2.2.2.2.2.1
theorem dX10_order_46 : decode cX10_order 46 = .ok (.invokevirtual 315, 3) := gdX10_order_26.2.2.2.2.2.2.2.2.1
theorem dX10_order_49 : decode cX10_order 49 = .ok (.iload_n 1, 1) := gdX10_order_26.2.2.2.2.2.2.2.2.2.1
theorem dX10_order_50 : decode cX10_order 50 = .ok (.if_icmp .ne 5, 3) := gdX10_order_26.2.2.2.2.2.2.2.2.2.2.1
theorem dX10_order_53 : decode cX10_order 53 = .ok (.iload_n 2, 1) := gdX10_order_26.2.2.2.2.2.2.2.2.2.2.2.1
theorem dX10_order_54 : decode cX10_order 54 = .ok (.ireturn, 1) := gdX10_order_26.2.2.2.2.2.2.2.2.2.2.2.2.1
theorem dX10_order_55 : decode cX10_order 55 = .ok (.iinc 2 1, 3) := gdX10_order_26.2.2.2.2.2.2.2.2.2.2.2.2.2.1
theorem dX10_order_58 : decode cX10_order 58 = .ok (.goto (-34), 3) := gdX10_order_26.2.2.2.2.2.2.2.2.2.2.2.2.2.2.1
theorem dX10_order_61 : decode cX10_order 61 = .ok (.iconst (-1), 1) := gdX10_order_26.2.2.2.2.2.2.2.2.2.2.2.2.2.2.2
theorem dX10_order_62 : decode cX10_order 62 = .ok (.ireturn, 1) := by decide +kernel
theorem gdX10_seed_0 : (decode cX10_seed 0 = .ok (.iload_n 1, 1)) ∧ (decode cX10_seed 1 = .ok (.ifCond .ge 5, 3)) ∧ (decode cX10_seed 4 = .ok (.iconst (-1), 1)) ∧ (decode cX10_seed 5 = .ok (.ireturn, 1)) ∧ (decode cX10_seed 6 = .ok (.aload_n 0, 1)) ∧ (decode cX10_seed 7 = .ok (.getfield 19, 3)) ∧ (decode cX10_seed 10 = .ok (.getfield 318, 3)) ∧ (decode cX10_seed 13 = .ok (.istore_n 2, 1)) ∧ (decode cX10_seed 14 = .ok (.aload_n 0, 1)) ∧ (decode cX10_seed 15 = .ok (.getfield 19, 3)) ∧ (decode cX10_seed 18 = .ok (.iload_n 1, 1)) ∧ (decode cX10_seed 19 = .ok (.putfield 318, 3)) ∧ (decode cX10_seed 22 = .ok (.iload_n 2, 1)) ∧ (decode cX10_seed 23 = .ok (.ireturn, 1)) := by decide +kernel
theorem dX10_seed_0 : decode cX10_seed 0 = .ok (.iload_n 1, 1) := gdX10_seed_0.1
theorem dX10_seed_1 : decode cX10_seed 1 = .ok (.ifCond .ge 5, 3) := gdX10_seed_0.2.1
theorem dX10_seed_4 : decode cX10_seed 4 = .ok (.iconst (-1), 1) := gdX10_seed_0.2.2.1
theorem dX10_seed_5 : decode cX10_seed 5 = .ok (.ireturn, 1) := gdX10_seed_0.2.2.2.1
theorem dX10_seed_6 : decode cX10_seed 6 = .ok (.aload_n 0, 1) := gdX10_seed_0.2.2.2.2.1
theorem dX10_seed_7 : decode cX10_seed 7 = .ok (.getfield 19, 3) := gdX10_seed_0.2.2.2.2.2.1
theorem dX10_seed_10 : decode cX10_seed 10 = .ok (.getfield 318, 3) := gdX10_seed_0.2.2.2.2.2.2.1
theorem dX10_seed_13 : decode cX10_seed 13 = .ok (.istore_n 2, 1) := gdX10_seed_0.2.2.2.2.2.2.2.1
theorem dX10_seed_14 : decode cX10_seed 14 = .ok (.aload_n 0, 1) := gdX10_seed_0.2.2.2.2.2.2.2.2.1
theorem dX10_seed_15 : decode cX10_seed 15 = .ok (.getfield 19, 3) := gdX10_seed_0.2.2.2.2.2.2.2.2.2.1
theorem dX10_seed_18 : decode cX10_seed 18 = .ok (.iload_n 1, 1) := gdX10_seed_0.2.2.2.2.2.2.2.2.2.2.1
theorem dX10_seed_19 : decode cX10_seed 19 = .ok (.putfield 318, 3) := gdX10_seed_0.2.2.2.2.2.2.2.2.2.2.2.1
theorem dX10_seed_22 : decode cX10_seed 22 = .ok (.iload_n 2, 1) := gdX10_seed_0.2.2.2.2.2.2.2.2.2.2.2.2.1
theorem dX10_seed_23 : decode cX10_seed 23 = .ok (.ireturn, 1) := gdX10_seed_0.2.2.2.2.2.2.2.2.2.2.2.2.2
theorem gdX10_meetings_0 : (decode cX10_meetings 0 = .ok (.aload_n 0, 1)) ∧ (decode cX10_meetings 1 = .ok (.iload_n 1, 1)) ∧ (decode cX10_meetings 2 = .ok (.invokevirtual 167, 3)) ∧ (decode cX10_meetings 5 = .ok (.ifCond .eq 26, 3)) ∧ (decode cX10_meetings 8 = .ok (.aload_n 0, 1)) ∧ (decode cX10_meetings 9 = .ok (.iload_n 2, 1)) ∧ (decode cX10_meetings 10 = .ok (.invokevirtual 167, 3)) ∧ (decode cX10_meetings 13 = .ok (.ifCond .eq 18, 3)) ∧ (decode cX10_meetings 16 = .ok (.iload_n 1, 1)) ∧ (decode cX10_meetings 17 = .ok (.iload_n 2, 1)) ∧ (decode cX10_meetings 18 = .ok (.if_icmp .eq 13, 3)) ∧ (decode cX10_meetings 21 = .ok (.iload 5, 2)) ∧ (decode cX10_meetings 23 = .ok (.iconst 0, 1)) ∧ (decode cX10_meetings 24 = .ok (.iconst 1, 1)) ∧ (decode cX10_meetings 25 = .ok (.invokestatic 91, 3)) ∧ (decode cX10_meetings 28 = .ok (.ifCond .ne 5, 3)) := by decide +kernel
theorem dX10_meetings_0 : decode cX10_meetings 0 = .ok (.aload_n 0, 1) := gdX10_meetings_0.1
theorem dX10_meetings_1 : decode cX10_meetings 1 = .ok (.iload_n 1, 1) := gdX10_meetings_0.2.1
theorem dX10_meetings_2 : decode cX10_meetings 2 = .ok (.invokevirtual 167, 3) := gdX10_meetings_0.2.2.1
theorem dX10_meetings_5 : decode cX10_meetings 5 = .ok (.ifCond .eq 26, 3) := gdX10_meetings_0.2.2.2.1
theorem dX10_meetings_8 : decode cX10_meetings 8 = .ok (.aload_n 0, 1) := gdX10_meetings_0.2.2.2.2.1
theorem dX10_meetings_9 : decode cX10_meetings 9 = .ok (.iload_n 2, 1) := gdX10_meetings_0.2.2.2.2.2.1
theorem dX10_meetings_10 : decode cX10_meetings 10 = .ok (.invokevirtual 167, 3) := gdX10_meetings_0.2.2.2.2.2.2.1
theorem dX10_meetings_13 : decode cX10_meetings 13 = .ok (.ifCond .eq 18, 3) := gdX10_meetings_0.2.2.2.2.2.2.2.1
theorem dX10_meetings_16 : decode cX10_meetings 16 = .ok (.iload_n 1, 1) := gdX10_meetings_0.2.2.2.2.2.2.2.2.1
theorem dX10_meetings_17 : decode cX10_meetings 17 = .ok (.iload_n 2, 1) := gdX10_meetings_0.2.2.2.2.2.2.2.2.2.1
theorem dX10_meetings_18 : decode cX10_meetings 18 = .ok (.if_icmp .eq 13, 3) := gdX10_meetings_0.2.2.2.2.2.2.2.2.2.2.1
theorem dX10_meetings_21 : decode cX10_meetings 21 = .ok (.iload 5, 2) := gdX10_meetings_0.2.2.2.2.2.2.2.2.2.2.2.1
theorem dX10_meetings_23 : decode cX10_meetings 23 = .ok (.iconst 0, 1) := gdX10_meetings_0.2.2.2.2.2.2.2.2.2.2.2.2.1
theorem dX10_meetings_24 : decode cX10_meetings 24 = .ok (.iconst 1, 1) := gdX10_meetings_0.2.2.2.2.2.2.2.2.2.2.2.2.2.1
theorem dX10_meetings_25 : decode cX10_meetings 25 = .ok (.invokestatic 91, 3) := gdX10_meetings_0.2.2.2.2.2.2.2.2.2.2.2.2.2.2.1
theorem dX10_meetings_28 : decode cX10_meetings 28 = .ok (.ifCond .ne 5, 3) := gdX10_meetings_0.2.2.2.2.2.2.2.2.2.2.2.2.2.2.2
theorem gdX10_meetings_31 : (decode cX10_meetings 31 = .ok (.iconst (-1), 1)) ∧ (decode cX10_meetings 32 = .ok (.ireturn, 1)) ∧ (decode cX10_meetings 33 = .ok (.iload_n 3, 1)) ∧ (decode cX10_meetings 34 = .ok (.iconst 1, 1)) ∧ (decode cX10_meetings 35 = .ok (.bipush 20, 2)) ∧ (decode cX10_meetings 37 = .ok (.invokestatic 91, 3)) ∧ (decode cX10_meetings 40 = .ok (.ifCond .eq 15, 3)) ∧ (decode cX10_meetings 43 = .ok (.iload 4, 2)) ∧ (decode cX10_meetings 45 = .ok (.iconst 1, 1)) ∧ (decode cX10_meetings 46 = .ok (.sipush 200, 3)) ∧ (decode cX10_meetings 49 = .ok (.invokestatic 91, 3)) ∧ (decode cX10_meetings 52 = .ok (.ifCond .ne 5, 3)) ∧ (decode cX10_meetings 55 = .ok (.iconst (-1), 1)) ∧ (decode cX10_meetings 56 = .ok (.ireturn, 1)) ∧ (decode cX10_meetings 57 = .ok (.iconst 0, 1)) ∧ (decode cX10_meetings 58 = .ok (.istore 6, 2)) := by decide +kernel
theorem dX10_meetings_31 : decode cX10_meetings 31 = .ok (.iconst (-1), 1) := gdX10_meetings_31.1
theorem dX10_meetings_32 : decode cX10_meetings 32 = .ok (.ireturn, 1) := gdX10_meetings_31.2.1
theorem dX10_meetings_33 : decode cX10_meetings 33 = .ok (.iload_n 3, 1) := gdX10_meetings_31.2.2.1
theorem dX10_meetings_34 : decode cX10_meetings 34 = .ok (.iconst 1, 1) := gdX10_meetings_31.2.2.2.1
theorem dX10_meetings_35 : decode cX10_meetings 35 = .ok (.bipush 20, 2) := gdX10_meetings_31.2.2.2.2.1
theorem dX10_meetings_37 : decode cX10_meetings 37 = .ok (.invokestatic 91, 3) := gdX10_meetings_31.2.2.2.2.2.1
theorem dX10_meetings_40 : decode cX10_meetings 40 = .ok (.ifCond .eq 15, 3) := gdX10_meetings_31.2.2.2.2.2.2.1
theorem dX10_meetings_43 : decode cX10_meetings 43 = .ok (.iload 4, 2) := gdX10_meetings_31.2.2.2.2.2.2.2.1
theorem dX10_meetings_45 : decode cX10_meetings 45 = .ok (.iconst 1, 1) := gdX10_meetings_31.2.2.2.2.2.2.2.2.1
theorem dX10_meetings_46 : decode cX10_meetings 46 = .ok (.sipush 200, 3) := gdX10_meetings_31.2.2.2.2.2.2.2.2.2.1
theorem dX10_meetings_49 : decode cX10_meetings 49 = .ok (.invokestatic 91, 3) := gdX10_meetings_31.2.2.2.2.2.2.2.2.2.2.1
theorem dX10_meetings_52 : decode cX10_meetings 52 = .ok (.ifCond .ne 5, 3) := gdX10_meetings_31.2.2.2.2.2.2.2.2.2.2.2.1
theorem dX10_meetings_55 : decode cX10_meetings 55 = .ok (.iconst (-1), 1) := gdX10_meetings_31.2.2.2.2.2.2.2.2.2.2.2.2.1
theorem dX10_meetings_56 : decode cX10_meetings 56 = .ok (.ireturn, 1) := gdX10_meetings_31.2.2.2.2.2.2.2.2.2.2.2.2.2.1
theorem dX10_meetings_57 : decode cX10_meetings 57 = .ok (.iconst 0, 1) := gdX10_meetings_31.2.2.2.2.2.2.2.2.2.2.2.2.2.2.1
theorem dX10_meetings_58 : decode cX10_meetings 58 = .ok (.istore 6, 2) := gdX10_meetings_31.2.2.2.2.2.2.2.2.2.2.2.2.2.2.2
theorem gdX10_meetings_60 : (decode cX10_meetings 60 = .ok (.iconst 0, 1)) ∧ (decode cX10_meetings 61 = .ok (.istore 7, 2)) ∧ (decode cX10_meetings 63 = .ok (.iconst 0, 1)) ∧ (decode cX10_meetings 64 = .ok (.istore 8, 2)) ∧ (decode cX10_meetings 66 = .ok (.iload 8, 2)) ∧ (decode cX10_meetings 68 = .ok (.iload_n 3, 1)) ∧ (decode cX10_meetings 69 = .ok (.if_icmp .ge 41, 3)) ∧ (decode cX10_meetings 72 = .ok (.aload_n 0, 1)) ∧ (decode cX10_meetings 73 = .ok (.iload_n 1, 1)) ∧ (decode cX10_meetings 74 = .ok (.iload_n 2, 1)) ∧ (decode cX10_meetings 75 = .ok (.iload 4, 2)) ∧ (decode cX10_meetings 77 = .ok (.invokevirtual 321, 3)) ∧ (decode cX10_meetings 80 = .ok (.istore 9, 2)) ∧ (decode cX10_meetings 82 = .ok (.iload 6, 2)) ∧ (decode cX10_meetings 84 = .ok (.iload 9, 2)) ∧ (decode cX10_meetings 86 = .ok (.iadd, 1)) := by decide +kernel
theorem dX10_meetings_60 : decode cX10_meetings 60 = .ok (.iconst 0, 1) := gdX10_meetings_60.1
theorem dX10_meetings_61 : decode cX10_meetings 61 = .ok (.istore 7, 2) := gdX10_meetings_60.2.1
theorem dX10_meetings_63 : decode cX10_meetings 63 = .ok (.iconst 0, 1) := gdX10_meetings_60.2.2.1
theorem dX10_meetings_64 : decode cX10_meetings 64 = .ok (.istore 8, 2) := gdX10_meetings_60.2.2.2.1
theorem dX10_meetings_66 : decode cX10_meetings 66 = .ok (.iload 8, 2) := gdX10_meetings_60.2.2.2.2.1
theorem dX10_meetings_68 : decode cX10_meetings 68 = .ok (.iload_n 3, 1) := gdX10_meetings_60.2.2.2.2.2.1
theorem dX10_meetings_69 : decode cX10_meetings 69 = .ok (.if_icmp .ge 41, 3) := gdX10_meetings_60.2.2.2.2.2.2.1
theorem dX10_meetings_72 : decode cX10_meetings 72 = .ok (.aload_n 0, 1) := gdX10_meetings_60.2.2.2.2.2.2.2.1
theorem dX10_meetings_73 : decode cX10_meetings 73 = .ok (.iload_n 1, 1) := gdX10_meetings_60.2.2.2.2.2.2.2.2.1
theorem dX10_meetings_74 : decode cX10_meetings 74 = .ok (.iload_n 2, 1) := gdX10_meetings_60.2.2.2.2.2.2.2.2.2.1
theorem dX10_meetings_75 : decode cX10_meetings 75 = .ok (.iload 4, 2) := gdX10_meetings_60.2.2.2.2.2.2.2.2.2.2.1
theorem dX10_meetings_77 : decode cX10_meetings 77 = .ok (.invokevirtual 321, 3) := gdX10_meetings_60.2.2.2.2.2.2.2.2.2.2.2.1
theorem dX10_meetings_80 : decode cX10_meetings 80 = .ok (.istore 9, 2) := gdX10_meetings_60.2.2.2.2.2.2.2.2.2.2.2.2.1
theorem dX10_meetings_82 : decode cX10_meetings 82 = .ok (.iload 6, 2) := gdX10_meetings_60.2.2.2.2.2.2.2.2.2.2.2.2.2.1
theorem dX10_meetings_84 : decode cX10_meetings 84 = .ok (.iload 9, 2) := gdX10_meetings_60.2.2.2.2.2.2.2.2.2.2.2.2.2.2.1
theorem dX10_meetings_86 : decode cX10_meetings 86 = .ok (.iadd, 1) := gdX10_meetings_60.2.2.2.2.2.2.2.2.2.2.2.2.2.2.2
theorem gdX10_meetings_87 : (decode cX10_meetings 87 = .ok (.istore 6, 2)) ∧ (decode cX10_meetings 89 = .ok (.iload 7, 2)) ∧ (decode cX10_meetings 91 = .ok (.iload 9, 2)) ∧ (decode cX10_meetings 93 = .ok (.ifCond .le 7, 3)) ∧ (decode cX10_meetings 96 = .ok (.iconst 1, 1)) ∧ (decode cX10_meetings 97 = .ok (.goto 4, 3)) ∧ (decode cX10_meetings 100 = .ok (.iconst 0, 1)) ∧ (decode cX10_meetings 101 = .ok (.iadd, 1)) ∧ (decode cX10_meetings 102 = .ok (.istore 7, 2)) ∧ (decode cX10_meetings 104 = .ok (.iinc 8 1, 3)) ∧ (decode cX10_meetings 107 = .ok (.goto (-41), 3)) ∧ (decode cX10_meetings 110 = .ok (.iload 5, 2)) ∧ (decode cX10_meetings 112 = .ok (.ifCond .ne 8, 3)) ∧ (decode cX10_meetings 115 = .ok (.iload 6, 2)) ∧ (decode cX10_meetings 117 = .ok (.goto 5, 3)) ∧ (decode cX10_meetings 120 = .ok (.iload 7, 2)) := by decide +kernel
theorem dX10_meetings_87 : decode cX10_meetings 87 = .ok (.istore 6, 2) := gdX10_meetings_87.1
theorem dX10_meetings_89 : decode cX10_meetings 89 = .ok (.iload 7, 2) := gdX10_meetings_87.2.1
theorem dX10_meetings_91 : decode cX10_meetings 91 = .ok (.iload 9, 2) := gdX10_meetings_87.2.2.1
theorem dX10_meetings_93 : decode cX10_meetings 93 = .ok (.ifCond .le 7, 3) := gdX10_meetings_87.2.2.2.1
theorem dX10_meetings_96 : decode cX10_meetings 96 = .ok (.iconst 1, 1) := gdX10_meetings_87.2.2.2.2.1
theorem dX10_meetings_97 : decode cX10_meetings 97 = .ok (.goto 4, 3) := gdX10_meetings_87.2.2.2.2.2.1
theorem dX10_meetings_100 : decode cX10_meetings 100 = .ok (.iconst 0, 1) := gdX10_meetings_87.2.2.2.2.2.2.1
theorem dX10_meetings_101 : decode cX10_meetings 101 = .ok (.iadd, 1) := gdX10_meetings_87.2.2.2.2.2.2.2.1
theorem dX10_meetings_102 : decode cX10_meetings 102 = .ok (.istore 7, 2) := gdX10_meetings_87.2.2.2.2.2.2.2.2.1
theorem dX10_meetings_104 : decode cX10_meetings 104 = .ok (.iinc 8 1, 3) := gdX10_meetings_87.2.2.2.2.2.2.2.2.2.1
theorem dX10_meetings_107 : decode cX10_meetings 107 = .ok (.goto (-41), 3) := gdX10_meetings_87.2.2.2.2.2.2.2.2.2.2.1
theorem dX10_meetings_110 : decode cX10_meetings 110 = .ok (.iload 5, 2) := gdX10_meetings_87.2.2.2.2.2.2.2.2.2.2.2.1
theorem dX10_meetings_112 : decode cX10_meetings 112 = .ok (.ifCond .ne 8, 3) := gdX10_meetings_87.2.2.2.2.2.2.2.2.2.2.2.2.1
theorem dX10_meetings_115 : decode cX10_meetings 115 = .ok (.iload 6, 2) := gdX10_meetings_87.2.2.2.2.2.2.2.2.2.2.2.2.2.1
theorem dX10_meetings_117 : decode cX10_meetings 117 = .ok (.goto 5, 3) := gdX10_meetings_87.2.2.2.2.2.2.2.2.2.2.2.2.2.2.1
theorem dX10_meetings_120 : decode cX10_meetings 120 = .ok (.iload 7, 2) := gdX10_meetings_87.2.2.2.2.2.2.2.2.2.2.2.2.2.2.2
theorem dX10_meetings_122 : decode cX10_meetings 122 = .ok (.ireturn, 1) := by decide +kernel
theorem gdX10_count_0 : (decode cX10_count 0 = .ok (.iload_n 1, 1)) ∧ (decode cX10_count 1 = .ok (.tableswitch 160 0 9 #[55, 66, 77, 88, 93, 104, 115, 133, 144, 152], 55)) ∧ (decode cX10_count 56 = .ok (.aload_n 0, 1)) ∧ (decode cX10_count 57 = .ok (.getfield 19, 3)) ∧ (decode cX10_count 60 = .ok (.getfield 102, 3)) ∧ (decode cX10_count 63 = .ok (.getfield 122, 3)) ∧ (decode cX10_count 66 = .ok (.ireturn, 1)) ∧ (decode cX10_count 67 = .ok (.aload_n 0, 1)) ∧ (decode cX10_count 68 = .ok (.getfield 19, 3)) ∧ (decode cX10_count 71 = .ok (.getfield 102, 3)) ∧ (decode cX10_count 74 = .ok (.getfield 151, 3)) ∧ (decode cX10_count 77 = .ok (.ireturn, 1)) ∧ (decode cX10_count 78 = .ok (.aload_n 0, 1)) ∧ (decode cX10_count 79 = .ok (.getfield 19, 3)) ∧ (decode cX10_count 82 = .ok (.getfield 109, 3)) ∧ (decode cX10_count 85 = .ok (.getfield 285, 3)) := by decide +kernel
theorem dX10_count_0 : decode cX10_count 0 = .ok (.iload_n 1, 1) := gdX10_count_0.1
theorem dX10_count_1 : decode cX10_count 1 = .ok (.tableswitch 160 0 9 #[55, 66, 77, 88, 93, 104, 115, 133, 144, 152], 55) := gdX10_count_0.2.1
theorem dX10_count_56 : decode cX10_count 56 = .ok (.aload_n 0, 1) := gdX10_count_0.2.2.1
theorem dX10_count_57 : decode cX10_count 57 = .ok (.getfield 19, 3) := gdX10_count_0.2.2.2.1
theorem dX10_count_60 : decode cX10_count 60 = .ok (.getfield 102, 3) := gdX10_count_0.2.2.2.2.1
theorem dX10_count_63 : decode cX10_count 63 = .ok (.getfield 122, 3) := gdX10_count_0.2.2.2.2.2.1
theorem dX10_count_66 : decode cX10_count 66 = .ok (.ireturn, 1) := gdX10_count_0.2.2.2.2.2.2.1
theorem dX10_count_67 : decode cX10_count 67 = .ok (.aload_n 0, 1) := gdX10_count_0.2.2.2.2.2.2.2.1
theorem dX10_count_68 : decode cX10_count 68 = .ok (.getfield 19, 3) := gdX10_count_0.2.2.2.2.2.2.2.2.1
theorem dX10_count_71 : decode cX10_count 71 = .ok (.getfield 102, 3) := gdX10_count_0.2.2.2.2.2.2.2.2.2.1
theorem dX10_count_74 : decode cX10_count 74 = .ok (.getfield 151, 3) := gdX10_count_0.2.2.2.2.2.2.2.2.2.2.1
theorem dX10_count_77 : decode cX10_count 77 = .ok (.ireturn, 1) := gdX10_count_0.2.2.2.2.2.2.2.2.2.2.2.1
theorem dX10_count_78 : decode cX10_count 78 = .ok (.aload_n 0, 1) := gdX10_count_0.2.2.2.2.2.2.2.2.2.2.2.2.1
theorem dX10_count_79 : decode cX10_count 79 = .ok (.getfield 19, 3) := gdX10_count_0.2.2.2.2.2.2.2.2.2.2.2.2.2.1
theorem dX10_count_82 : decode cX10_count 82 = .ok (.getfield 109, 3) := gdX10_count_0.2.2.2.2.2.2.2.2.2.2.2.2.2.2.1
theorem dX10_count_85 : decode cX10_count 85 = .ok (.getfield 285, 3) := gdX10_count_0.2.2.2.2.2.2.2.2.2.2.2.2.2.2.2
theorem gdX10_count_88 : (decode cX10_count 88 = .ok (.ireturn, 1)) ∧ (decode cX10_count 89 = .ok (.aload_n 0, 1)) ∧ (decode cX10_count 90 = .ok (.getfield 79, 3)) ∧ (decode cX10_count 93 = .ok (.ireturn, 1)) ∧ (decode cX10_count 94 = .ok (.aload_n 0, 1)) ∧ (decode cX10_count 95 = .ok (.getfield 19, 3)) ∧ (decode cX10_count 98 = .ok (.getfield 109, 3)) ∧ (decode cX10_count 101 = .ok (.getfield 200, 3)) ∧ (decode cX10_count 104 = .ok (.ireturn, 1)) ∧ (decode cX10_count 105 = .ok (.aload_n 0, 1)) ∧ (decode cX10_count 106 = .ok (.getfield 19, 3)) ∧ (decode cX10_count 109 = .ok (.getfield 115, 3)) ∧ (decode cX10_count 112 = .ok (.getfield 119, 3)) ∧ (decode cX10_count 115 = .ok (.ireturn, 1)) ∧ (decode cX10_count 116 = .ok (.aload_n 0, 1)) ∧ (decode cX10_count 117 = .ok (.getfield 19, 3)) := by decide +kernel
theorem dX10_count_88 : decode cX10_count 88 = .ok (.ireturn, 1) := gdX10_count_88.1
theorem dX10_count_89 : decode cX10_count 89 = .ok (.aload_n 0, 1) := gdX10_count_88.2.1
theorem dX10_count_90 : decode cX10_count 90 = .ok (.getfield 79, 3) := gdX10_count_88.2.2.1
theorem dX10_count_93 : decode cX10_count 93 = .ok (.ireturn, 1) := gdX10_count_88.2.2.2.1
theorem dX10_count_94 : decode cX10_count 94 = .ok (.aload_n 0, 1) := gdX10_count_88.2.2.2.2.1
theorem dX10_count_95 : decode cX10_count 95 = .ok (.getfield 19, 3) := gdX10_count_88.2.2.2.2.2.1
theorem dX10_count_98 : decode cX10_count 98 = .ok (.getfield 109, 3) := gdX10_count_88.2.2.2.2.2.2.1
theorem dX10_count_101 : decode cX10_count 101 = .ok (.getfield 200, 3) := gdX10_count_88.2.2.2.2.2.2.2.1
theorem dX10_count_104 : decode cX10_count 104 = .ok (.ireturn, 1) := gdX10_count_88.2.2.2.2.2.2.2.2.1
theorem dX10_count_105 : decode cX10_count 105 = .ok (.aload_n 0, 1) := gdX10_count_88.2.2.2.2.2.2.2.2.2.1
theorem dX10_count_106 : decode cX10_count 106 = .ok (.getfield 19, 3) := gdX10_count_88.2.2.2.2.2.2.2.2.2.2.1
theorem dX10_count_109 : decode cX10_count 109 = .ok (.getfield 115, 3) := gdX10_count_88.2.2.2.2.2.2.2.2.2.2.2.1
theorem dX10_count_112 : decode cX10_count 112 = .ok (.getfield 119, 3) := gdX10_count_88.2.2.2.2.2.2.2.2.2.2.2.2.1
theorem dX10_count_115 : decode cX10_count 115 = .ok (.ireturn, 1) := gdX10_count_88.2.2.2.2.2.2.2.2.2.2.2.2.2.1
theorem dX10_count_116 : decode cX10_count 116 = .ok (.aload_n 0, 1) := gdX10_count_88.2.2.2.2.2.2.2.2.2.2.2.2.2.2.1
theorem dX10_count_117 : decode cX10_count 117 = .ok (.getfield 19, 3) := gdX10_count_88.2.2.2.2.2.2.2.2.2.2.2.2.2.2.2
theorem gdX10_count_120 : (decode cX10_count 120 = .ok (.getfield 115, 3)) ∧ (decode cX10_count 123 = .ok (.aload_n 0, 1)) ∧ (decode cX10_count 124 = .ok (.getfield 19, 3)) ∧ (decode cX10_count 127 = .ok (.getfield 102, 3)) ∧ (decode cX10_count 130 = .ok (.invokevirtual 325, 3)) ∧ (decode cX10_count 133 = .ok (.ireturn, 1)) ∧ (decode cX10_count 134 = .ok (.aload_n 0, 1)) ∧ (decode cX10_count 135 = .ok (.getfield 19, 3)) ∧ (decode cX10_count 138 = .ok (.getfield 109, 3)) ∧ (decode cX10_count 141 = .ok (.invokevirtual 329, 3)) ∧ (decode cX10_count 144 = .ok (.ireturn, 1)) ∧ (decode cX10_count 145 = .ok (.aload_n 0, 1)) ∧ (decode cX10_count 146 = .ok (.getfield 19, 3)) ∧ (decode cX10_count 149 = .ok (.getfield 318, 3)) ∧ (decode cX10_count 152 = .ok (.ireturn, 1)) ∧ (decode cX10_count 153 = .ok (.aload_n 0, 1)) := by decide +kernel
theorem dX10_count_120 : decode cX10_count 120 = .ok (.getfield 115, 3) := gdX10_count_120.1
theorem dX10_count_123 : decode cX10_count 123 = .ok (.aload_n 0, 1) := gdX10_count_120.2.1
theorem dX10_count_124 : decode cX10_count 124 = .ok (.getfield 19, 3) := gdX10_count_120.2.2.1
theorem dX10_count_127 : decode cX10_count 127 = .ok (.getfield 102, 3) := gdX10_count_120.2.2.2.1
theorem dX10_count_130 : decode cX10_count 130 = .ok (.invokevirtual 325, 3) := gdX10_count_120.2.2.2.2.1
theorem dX10_count_133 : decode cX10_count 133 = .ok (.ireturn, 1) := gdX10_count_120.2.2.2.2.2.1
theorem dX10_count_134 : decode cX10_count 134 = .ok (.aload_n 0, 1) := gdX10_count_120.2.2.2.2.2.2.1
theorem dX10_count_135 : decode cX10_count 135 = .ok (.getfield 19, 3) := gdX10_count_120.2.2.2.2.2.2.2.1
theorem dX10_count_138 : decode cX10_count 138 = .ok (.getfield 109, 3) := gdX10_count_120.2.2.2.2.2.2.2.2.1
theorem dX10_count_141 : decode cX10_count 141 = .ok (.invokevirtual 329, 3) := gdX10_count_120.2.2.2.2.2.2.2.2.2.1
theorem dX10_count_144 : decode cX10_count 144 = .ok (.ireturn, 1) := gdX10_count_120.2.2.2.2.2.2.2.2.2.2.1
theorem dX10_count_145 : decode cX10_count 145 = .ok (.aload_n 0, 1) := gdX10_count_120.2.2.2.2.2.2.2.2.2.2.2.1
theorem dX10_count_146 : decode cX10_count 146 = .ok (.getfield 19, 3) := gdX10_count_120.2.2.2.2.2.2.2.2.2.2.2.2.1
theorem dX10_count_149 : decode cX10_count 149 = .ok (.getfield 318, 3) := gdX10_count_120.2.2.2.2.2.2.2.2.2.2.2.2.2.1
theorem dX10_count_152 : decode cX10_count 152 = .ok (.ireturn, 1) := gdX10_count_120.2.2.2.2.2.2.2.2.2.2.2.2.2.2.1
theorem dX10_count_153 : decode cX10_count 153 = .ok (.aload_n 0, 1) := gdX10_count_120.2.2.2.2.2.2.2.2.2.2.2.2.2.2.2
theorem gdX10_count_154 : (decode cX10_count 154 = .ok (.getfield 12, 3)) ∧ (decode cX10_count 157 = .ok (.getfield 84, 3)) ∧ (decode cX10_count 160 = .ok (.ireturn, 1)) ∧ (decode cX10_count 161 = .ok (.iconst (-1), 1)) ∧ (decode cX10_count 162 = .ok (.ireturn, 1)) := by decide +kernel
theorem dX10_count_154 : decode cX10_count 154 = .ok (.getfield 12, 3) := gdX10_count_154.1
theorem dX10_count_157 : decode cX10_count 157 = .ok (.getfield 84, 3) := gdX10_count_154.2.1
theorem dX10_count_160 : decode cX10_count 160 = .ok (.ireturn, 1) := gdX10_count_154.2.2.1
theorem dX10_count_161 : decode cX10_count 161 = .ok (.iconst (-1), 1) := gdX10_count_154.2.2.2.1
theorem dX10_count_162 : decode cX10_count 162 = .ok (.ireturn, 1) := gdX10_count_154.2.2.2.2
theorem gdX10_image_0 : (decode cX10_image 0 = .ok (.iload_n 1, 1)) ∧ (decode cX10_image 1 = .ok (.iconst 0, 1)) ∧ (decode cX10_image 2 = .ok (.iconst 3, 1)) ∧ (decode cX10_image 3 = .ok (.invokestatic 91, 3)) ∧ (decode cX10_image 6 = .ok (.ifCond .ne 5, 3)) ∧ (decode cX10_image 9 = .ok (.iconst (-1), 1)) ∧ (decode cX10_image 10 = .ok (.ireturn, 1)) ∧ (decode cX10_image 11 = .ok (.aload_n 0, 1)) ∧ (decode cX10_image 12 = .ok (.getfield 23, 3)) ∧ (decode cX10_image 15 = .ok (.iload_n 1, 1)) ∧ (decode cX10_image 16 = .ok (.aaload, 1)) ∧ (decode cX10_image 17 = .ok (.aload_n 0, 1)) ∧ (decode cX10_image 18 = .ok (.getfield 19, 3)) ∧ (decode cX10_image 21 = .ok (.invokevirtual 332, 3)) ∧ (decode cX10_image 24 = .ok (.aload_n 0, 1)) ∧ (decode cX10_image 25 = .ok (.getfield 23, 3)) := by decide +kernel
theorem dX10_image_0 : decode cX10_image 0 = .ok (.iload_n 1, 1) := gdX10_image_0.1
theorem dX10_image_1 : decode cX10_image 1 = .ok (.iconst 0, 1) := gdX10_image_0.2.1
theorem dX10_image_2 : decode cX10_image 2 = .ok (.iconst 3, 1) := gdX10_image_0.2.2.1
theorem dX10_image_3 : decode cX10_image 3 = .ok (.invokestatic 91, 3) := gdX10_image_0.2.2.2.1
theorem dX10_image_6 : decode cX10_image 6 = .ok (.ifCond .ne 5, 3) := gdX10_image_0.2.2.2.2.1
theorem dX10_image_9 : decode cX10_image 9 = .ok (.iconst (-1), 1) := gdX10_image_0.2.2.2.2.2.1
theorem dX10_image_10 : decode cX10_image 10 = .ok (.ireturn, 1) := gdX10_image_0.2.2.2.2.2.2.1
theorem dX10_image_11 : decode cX10_image 11 = .ok (.aload_n 0, 1) := gdX10_image_0.2.2.2.2.2.2.2.1
theorem dX10_image_12 : decode cX10_image 12 = .ok (.getfield 23, 3) := gdX10_image_0.2.2.2.2.2.2.2.2.1
theorem dX10_image_15 : decode cX10_image 15 = .ok (.iload_n 1, 1) := gdX10_image_0.2.2.2.2.2.2.2.2.2.1
theorem dX10_image_16 : decode cX10_image 16 = .ok (.aaload, 1) := gdX10_image_0.2.2.2.2.2.2.2.2.2.2.1
theorem dX10_image_17 : decode cX10_image 17 = .ok (.aload_n 0, 1) := gdX10_image_0.2.2.2.2.2.2.2.2.2.2.2.1
theorem dX10_image_18 : decode cX10_image 18 = .ok (.getfield 19, 3) := gdX10_image_0.2.2.2.2.2.2.2.2.2.2.2.2.1
theorem dX10_image_21 : decode cX10_image 21 = .ok (.invokevirtual 332, 3) := gdX10_image_0.2.2.2.2.2.2.2.2.2.2.2.2.2.1
theorem dX10_image_24 : decode cX10_image 24 = .ok (.aload_n 0, 1) := gdX10_image_0.2.2.2.2.2.2.2.2.2.2.2.2.2.2.1
theorem dX10_image_25 : decode cX10_image 25 = .ok (.getfield 23, 3) := gdX10_image_0.2.2.2.2.2.2.2.2.2.2.2.2.2.2.2
theorem gdX10_image_28 : (decode cX10_image 28 = .ok (.iload_n 1, 1)) ∧ (decode cX10_image 29 = .ok (.aaload, 1)) ∧ (decode cX10_image 30 = .ok (.iconst 1, 1)) ∧ (decode cX10_image 31 = .ok (.putfield 335, 3)) ∧ (decode cX10_image 34 = .ok (.aload_n 0, 1)) ∧ (decode cX10_image 35 = .ok (.getfield 19, 3)) ∧ (decode cX10_image 38 = .ok (.getfield 109, 3)) ∧ (decode cX10_image 41 = .ok (.getfield 200, 3)) ∧ (decode cX10_image 44 = .ok (.ireturn, 1)) := by decide +kernel
theorem dX10_image_28 : decode cX10_image 28 = .ok (.iload_n 1, 1) := gdX10_image_28.1
theorem dX10_image_29 : decode cX10_image 29 = .ok (.aaload, 1) := gdX10_image_28.2.1
theorem dX10_image_30 : decode cX10_image 30 = .ok (.iconst 1, 1) := gdX10_image_28.2.2.1
theorem dX10_image_31 : decode cX10_image 31 = .ok (.putfield 335, 3) := gdX10_image_28.2.2.2.1
theorem dX10_image_34 : decode cX10_image 34 = .ok (.aload_n 0, 1) := gdX10_image_28.2.2.2.2.1
theorem dX10_image_35 : decode cX10_image 35 = .ok (.getfield 19, 3) := gdX10_image_28.2.2.2.2.2.1
theorem dX10_image_38 : decode cX10_image 38 = .ok (.getfield 109, 3) := gdX10_image_28.2.2.2.2.2.2.1
theorem dX10_image_41 : decode cX10_image 41 = .ok (.getfield 200, 3) := gdX10_image_28.2.2.2.2.2.2.2.1
theorem dX10_image_44 : decode cX10_image 44 = .ok (.ireturn, 1) := gdX10_image_28.2.2.2.2.2.2.2.2
theorem gdX10_back_0 : (decode cX10_back 0 = .ok (.iload_n 1, 1)) ∧ (decode cX10_back 1 = .ok (.iconst 0, 1)) ∧ (decode cX10_back 2 = .ok (.iconst 3, 1)) ∧ (decode cX10_back 3 = .ok (.invokestatic 91, 3)) ∧ (decode cX10_back 6 = .ok (.ifCond .eq 15, 3)) ∧ (decode cX10_back 9 = .ok (.aload_n 0, 1)) ∧ (decode cX10_back 10 = .ok (.getfield 23, 3)) ∧ (decode cX10_back 13 = .ok (.iload_n 1, 1)) ∧ (decode cX10_back 14 = .ok (.aaload, 1)) ∧ (decode cX10_back 15 = .ok (.getfield 335, 3)) ∧ (decode cX10_back 18 = .ok (.ifCond .ne 5, 3)) ∧ (decode cX10_back 21 = .ok (.iconst (-1), 1)) ∧ (decode cX10_back 22 = .ok (.ireturn, 1)) ∧ (decode cX10_back 23 = .ok (.aload_n 0, 1)) ∧ (decode cX10_back 24 = .ok (.getfield 19, 3)) ∧ (decode cX10_back 27 = .ok (.aload_n 0, 1)) := by decide +kernel
theorem dX10_back_0 : decode cX10_back 0 = .ok (.iload_n 1, 1) := gdX10_back_0.1
theorem dX10_back_1 : decode cX10_back 1 = .ok (.iconst 0, 1) := gdX10_back_0.2.1
theorem dX10_back_2 : decode cX10_back 2 = .ok (.iconst 3, 1) := gdX10_back_0.2.2.1
theorem dX10_back_3 : decode cX10_back 3 = .ok (.invokestatic 91, 3) := gdX10_back_0.2.2.2.1
theorem dX10_back_6 : decode cX10_back 6 = .ok (.ifCond .eq 15, 3) := gdX10_back_0.2.2.2.2.1
theorem dX10_back_9 : decode cX10_back 9 = .ok (.aload_n 0, 1) := gdX10_back_0.2.2.2.2.2.1
theorem dX10_back_10 : decode cX10_back 10 = .ok (.getfield 23, 3) := gdX10_back_0.2.2.2.2.2.2.1
theorem dX10_back_13 : decode cX10_back 13 = .ok (.iload_n 1, 1) := gdX10_back_0.2.2.2.2.2.2.2.1
theorem dX10_back_14 : decode cX10_back 14 = .ok (.aaload, 1) := gdX10_back_0.2.2.2.2.2.2.2.2.1
theorem dX10_back_15 : decode cX10_back 15 = .ok (.getfield 335, 3) := gdX10_back_0.2.2.2.2.2.2.2.2.2.1
theorem dX10_back_18 : decode cX10_back 18 = .ok (.ifCond .ne 5, 3) := gdX10_back_0.2.2.2.2.2.2.2.2.2.2.1
theorem dX10_back_21 : decode cX10_back 21 = .ok (.iconst (-1), 1) := gdX10_back_0.2.2.2.2.2.2.2.2.2.2.2.1
theorem dX10_back_22 : decode cX10_back 22 = .ok (.ireturn, 1) := gdX10_back_0.2.2.2.2.2.2.2.2.2.2.2.2.1
theorem dX10_back_23 : decode cX10_back 23 = .ok (.aload_n 0, 1) := gdX10_back_0.2.2.2.2.2.2.2.2.2.2.2.2.2.1
theorem dX10_back_24 : decode cX10_back 24 = .ok (.getfield 19, 3) := gdX10_back_0.2.2.2.2.2.2.2.2.2.2.2.2.2.2.1
theorem dX10_back_27 : decode cX10_back 27 = .ok (.aload_n 0, 1) := gdX10_back_0.2.2.2.2.2.2.2.2.2.2.2.2.2.2.2
theorem gdX10_back_28 : (decode cX10_back 28 = .ok (.getfield 23, 3)) ∧ (decode cX10_back 31 = .ok (.iload_n 1, 1)) ∧ (decode cX10_back 32 = .ok (.aaload, 1)) ∧ (decode cX10_back 33 = .ok (.invokevirtual 332, 3)) ∧ (decode cX10_back 36 = .ok (.aload_n 0, 1)) ∧ (decode cX10_back 37 = .ok (.getfield 19, 3)) ∧ (decode cX10_back 40 = .ok (.getfield 109, 3)) ∧ (decode cX10_back 43 = .ok (.getfield 200, 3)) ∧ (decode cX10_back 46 = .ok (.ireturn, 1)) := by decide +kernel
theorem dX10_back_28 : decode cX10_back 28 = .ok (.getfield 23, 3) := gdX10_back_28.1
theorem dX10_back_31 : decode cX10_back 31 = .ok (.iload_n 1, 1) := gdX10_back_28.2.1
theorem dX10_back_32 : decode cX10_back 32 = .ok (.aaload, 1) := gdX10_back_28.2.2.1
theorem dX10_back_33 : decode cX10_back 33 = .ok (.invokevirtual 332, 3) := gdX10_back_28.2.2.2.1
theorem dX10_back_36 : decode cX10_back 36 = .ok (.aload_n 0, 1) := gdX10_back_28.2.2.2.2.1
theorem dX10_back_37 : decode cX10_back 37 = .ok (.getfield 19, 3) := gdX10_back_28.2.2.2.2.2.1
theorem dX10_back_40 : decode cX10_back 40 = .ok (.getfield 109, 3) := gdX10_back_28.2.2.2.2.2.2.1
theorem dX10_back_43 : decode cX10_back 43 = .ok (.getfield 200, 3) := gdX10_back_28.2.2.2.2.2.2.2.1
theorem dX10_back_46 : decode cX10_back 46 = .ok (.ireturn, 1) := gdX10_back_28.2.2.2.2.2.2.2.2
theorem gdX10_isFrom_0 : (decode cX10_isFrom 0 = .ok (.iload_n 0, 1)) ∧ (decode cX10_isFrom 1 = .ok (.iload_n 1, 1)) ∧ (decode cX10_isFrom 2 = .ok (.if_icmp .lt 12, 3)) ∧ (decode cX10_isFrom 5 = .ok (.iload_n 0, 1)) ∧ (decode cX10_isFrom 6 = .ok (.iload_n 2, 1)) ∧ (decode cX10_isFrom 7 = .ok (.if_icmp .gt 7, 3)) ∧ (decode cX10_isFrom 10 = .ok (.iconst 1, 1)) ∧ (decode cX10_isFrom 11 = .ok (.goto 4, 3)) ∧ (decode cX10_isFrom 14 = .ok (.iconst 0, 1)) ∧ (decode cX10_isFrom 15 = .ok (.ireturn, 1)) := by decide +kernel
theorem dX10_isFrom_0 : decode cX10_isFrom 0 = .ok (.iload_n 0, 1) := gdX10_isFrom_0.1
theorem dX10_isFrom_1 : decode cX10_isFrom 1 = .ok (.iload_n 1, 1) := gdX10_isFrom_0.2.1
theorem dX10_isFrom_2 : decode cX10_isFrom 2 = .ok (.if_icmp .lt 12, 3) := gdX10_isFrom_0.2.2.1
theorem dX10_isFrom_5 : decode cX10_isFrom 5 = .ok (.iload_n 0, 1) := gdX10_isFrom_0.2.2.2.1
theorem dX10_isFrom_6 : decode cX10_isFrom 6 = .ok (.iload_n 2, 1) := gdX10_isFrom_0.2.2.2.2.1
theorem dX10_isFrom_7 : decode cX10_isFrom 7 = .ok (.if_icmp .gt 7, 3) := gdX10_isFrom_0.2.2.2.2.2.1
theorem dX10_isFrom_10 : decode cX10_isFrom 10 = .ok (.iconst 1, 1) := gdX10_isFrom_0.2.2.2.2.2.2.1
theorem dX10_isFrom_11 : decode cX10_isFrom 11 = .ok (.goto 4, 3) := gdX10_isFrom_0.2.2.2.2.2.2.2.1
theorem dX10_isFrom_14 : decode cX10_isFrom 14 = .ok (.iconst 0, 1) := gdX10_isFrom_0.2.2.2.2.2.2.2.2.1
theorem dX10_isFrom_15 : decode cX10_isFrom 15 = .ok (.ireturn, 1) := gdX10_isFrom_0.2.2.2.2.2.2.2.2.2
theorem gdX10_isHour_0 : (decode cX10_isHour 0 = .ok (.iload_n 0, 1)) ∧ (decode cX10_isHour 1 = .ok (.iconst 0, 1)) ∧ (decode cX10_isHour 2 = .ok (.sipush 9999, 3)) ∧ (decode cX10_isHour 5 = .ok (.invokestatic 91, 3)) ∧ (decode cX10_isHour 8 = .ok (.ireturn, 1)) := by decide +kernel
theorem dX10_isHour_0 : decode cX10_isHour 0 = .ok (.iload_n 0, 1) := gdX10_isHour_0.1
theorem dX10_isHour_1 : decode cX10_isHour 1 = .ok (.iconst 0, 1) := gdX10_isHour_0.2.1
theorem dX10_isHour_2 : decode cX10_isHour 2 = .ok (.sipush 9999, 3) := gdX10_isHour_0.2.2.1
theorem dX10_isHour_5 : decode cX10_isHour 5 = .ok (.invokestatic 91, 3) := gdX10_isHour_0.2.2.2.1
theorem dX10_isHour_8 : decode cX10_isHour 8 = .ok (.ireturn, 1) := gdX10_isHour_0.2.2.2.2
theorem gdX10_isPart_0 : (decode cX10_isPart 0 = .ok (.iload_n 0, 1)) ∧ (decode cX10_isPart 1 = .ok (.iconst 0, 1)) ∧ (decode cX10_isPart 2 = .ok (.iconst 1, 1)) ∧ (decode cX10_isPart 3 = .ok (.invokestatic 91, 3)) ∧ (decode cX10_isPart 6 = .ok (.ireturn, 1)) := by decide +kernel
theorem dX10_isPart_0 : decode cX10_isPart 0 = .ok (.iload_n 0, 1) := gdX10_isPart_0.1
theorem dX10_isPart_1 : decode cX10_isPart 1 = .ok (.iconst 0, 1) := gdX10_isPart_0.2.1
theorem dX10_isPart_2 : decode cX10_isPart 2 = .ok (.iconst 1, 1) := gdX10_isPart_0.2.2.1
theorem dX10_isPart_3 : decode cX10_isPart 3 = .ok (.invokestatic 91, 3) := gdX10_isPart_0.2.2.2.1
theorem dX10_isPart_6 : decode cX10_isPart 6 = .ok (.ireturn, 1) := gdX10_isPart_0.2.2.2.2
theorem gdX10_isFloor_0 : (decode cX10_isFloor 0 = .ok (.iload_n 1, 1)) ∧ (decode cX10_isFloor 1 = .ok (.iconst 0, 1)) ∧ (decode cX10_isFloor 2 = .ok (.aload_n 0, 1)) ∧ (decode cX10_isFloor 3 = .ok (.getfield 19, 3)) ∧ (decode cX10_isFloor 6 = .ok (.getfield 102, 3)) ∧ (decode cX10_isFloor 9 = .ok (.getfield 122, 3)) ∧ (decode cX10_isFloor 12 = .ok (.iconst 1, 1)) ∧ (decode cX10_isFloor 13 = .ok (.isub, 1)) ∧ (decode cX10_isFloor 14 = .ok (.invokestatic 91, 3)) ∧ (decode cX10_isFloor 17 = .ok (.ireturn, 1)) := by decide +kernel
theorem dX10_isFloor_0 : decode cX10_isFloor 0 = .ok (.iload_n 1, 1) := gdX10_isFloor_0.1
theorem dX10_isFloor_1 : decode cX10_isFloor 1 = .ok (.iconst 0, 1) := gdX10_isFloor_0.2.1
theorem dX10_isFloor_2 : decode cX10_isFloor 2 = .ok (.aload_n 0, 1) := gdX10_isFloor_0.2.2.1
theorem dX10_isFloor_3 : decode cX10_isFloor 3 = .ok (.getfield 19, 3) := gdX10_isFloor_0.2.2.2.1
theorem dX10_isFloor_6 : decode cX10_isFloor 6 = .ok (.getfield 102, 3) := gdX10_isFloor_0.2.2.2.2.1
theorem dX10_isFloor_9 : decode cX10_isFloor 9 = .ok (.getfield 122, 3) := gdX10_isFloor_0.2.2.2.2.2.1
theorem dX10_isFloor_12 : decode cX10_isFloor 12 = .ok (.iconst 1, 1) := gdX10_isFloor_0.2.2.2.2.2.2.1
theorem dX10_isFloor_13 : decode cX10_isFloor 13 = .ok (.isub, 1) := gdX10_isFloor_0.2.2.2.2.2.2.2.1
theorem dX10_isFloor_14 : decode cX10_isFloor 14 = .ok (.invokestatic 91, 3) := gdX10_isFloor_0.2.2.2.2.2.2.2.2.1
theorem dX10_isFloor_17 : decode cX10_isFloor 17 = .ok (.ireturn, 1) := gdX10_isFloor_0.2.2.2.2.2.2.2.2.2
theorem gdX10_isThing_0 : (decode cX10_isThing 0 = .ok (.iload_n 1, 1)) ∧ (decode cX10_isThing 1 = .ok (.iconst 0, 1)) ∧ (decode cX10_isThing 2 = .ok (.aload_n 0, 1)) ∧ (decode cX10_isThing 3 = .ok (.getfield 19, 3)) ∧ (decode cX10_isThing 6 = .ok (.getfield 109, 3)) ∧ (decode cX10_isThing 9 = .ok (.getfield 285, 3)) ∧ (decode cX10_isThing 12 = .ok (.iconst 1, 1)) ∧ (decode cX10_isThing 13 = .ok (.isub, 1)) ∧ (decode cX10_isThing 14 = .ok (.invokestatic 91, 3)) ∧ (decode cX10_isThing 17 = .ok (.ireturn, 1)) := by decide +kernel
theorem dX10_isThing_0 : decode cX10_isThing 0 = .ok (.iload_n 1, 1) := gdX10_isThing_0.1
theorem dX10_isThing_1 : decode cX10_isThing 1 = .ok (.iconst 0, 1) := gdX10_isThing_0.2.1
theorem dX10_isThing_2 : decode cX10_isThing 2 = .ok (.aload_n 0, 1) := gdX10_isThing_0.2.2.1
theorem dX10_isThing_3 : decode cX10_isThing 3 = .ok (.getfield 19, 3) := gdX10_isThing_0.2.2.2.1
theorem dX10_isThing_6 : decode cX10_isThing 6 = .ok (.getfield 109, 3) := gdX10_isThing_0.2.2.2.2.1
theorem dX10_isThing_9 : decode cX10_isThing 9 = .ok (.getfield 285, 3) := gdX10_isThing_0.2.2.2.2.2.1
theorem dX10_isThing_12 : decode cX10_isThing 12 = .ok (.iconst 1, 1) := gdX10_isThing_0.2.2.2.2.2.2.1
theorem dX10_isThing_13 : decode cX10_isThing 13 = .ok (.isub, 1) := gdX10_isThing_0.2.2.2.2.2.2.2.1
theorem dX10_isThing_14 : decode cX10_isThing 14 = .ok (.invokestatic 91, 3) := gdX10_isThing_0.2.2.2.2.2.2.2.2.1
theorem dX10_isThing_17 : decode cX10_isThing 17 = .ok (.ireturn, 1) := gdX10_isThing_0.2.2.2.2.2.2.2.2.2
theorem gdX10_isStanding_0 : (decode cX10_isStanding 0 = .ok (.aload_n 0, 1)) ∧ (decode cX10_isStanding 1 = .ok (.iload_n 1, 1)) ∧ (decode cX10_isStanding 2 = .ok (.invokevirtual 167, 3)) ∧ (decode cX10_isStanding 5 = .ok (.ifCond .eq 21, 3)) ∧ (decode cX10_isStanding 8 = .ok (.aload_n 0, 1)) ∧ (decode cX10_isStanding 9 = .ok (.getfield 19, 3)) ∧ (decode cX10_isStanding 12 = .ok (.getfield 109, 3)) ∧ (decode cX10_isStanding 15 = .ok (.iload_n 1, 1)) ∧ (decode cX10_isStanding 16 = .ok (.invokevirtual 215, 3)) ∧ (decode cX10_isStanding 19 = .ok (.ifCond .eq 7, 3)) ∧ (decode cX10_isStanding 22 = .ok (.iconst 1, 1)) ∧ (decode cX10_isStanding 23 = .ok (.goto 4, 3)) ∧ (decode cX10_isStanding 26 = .ok (.iconst 0, 1)) ∧ (decode cX10_isStanding 27 = .ok (.ireturn, 1)) := by decide +kernel
theorem dX10_isStanding_0 : decode cX10_isStanding 0 = .ok (.aload_n 0, 1) := gdX10_isStanding_0.1
theorem dX10_isStanding_1 : decode cX10_isStanding 1 = .ok (.iload_n 1, 1) := gdX10_isStanding_0.2.1
theorem dX10_isStanding_2 : decode cX10_isStanding 2 = .ok (.invokevirtual 167, 3) := gdX10_isStanding_0.2.2.1
theorem dX10_isStanding_5 : decode cX10_isStanding 5 = .ok (.ifCond .eq 21, 3) := gdX10_isStanding_0.2.2.2.1
theorem dX10_isStanding_8 : decode cX10_isStanding 8 = .ok (.aload_n 0, 1) := gdX10_isStanding_0.2.2.2.2.1
theorem dX10_isStanding_9 : decode cX10_isStanding 9 = .ok (.getfield 19, 3) := gdX10_isStanding_0.2.2.2.2.2.1
theorem dX10_isStanding_12 : decode cX10_isStanding 12 = .ok (.getfield 109, 3) := gdX10_isStanding_0.2.2.2.2.2.2.1
theorem dX10_isStanding_15 : decode cX10_isStanding 15 = .ok (.iload_n 1, 1) := gdX10_isStanding_0.2.2.2.2.2.2.2.1
theorem dX10_isStanding_16 : decode cX10_isStanding 16 = .ok (.invokevirtual 215, 3) := gdX10_isStanding_0.2.2.2.2.2.2.2.2.1
theorem dX10_isStanding_19 : decode cX10_isStanding 19 = .ok (.ifCond .eq 7, 3) := gdX10_isStanding_0.2.2.2.2.2.2.2.2.2.1
theorem dX10_isStanding_22 : decode cX10_isStanding 22 = .ok (.iconst 1, 1) := gdX10_isStanding_0.2.2.2.2.2.2.2.2.2.2.1
theorem dX10_isStanding_23 : decode cX10_isStanding 23 = .ok (.goto 4, 3) := gdX10_isStanding_0.2.2.2.2.2.2.2.2.2.2.2.1
theorem dX10_isStanding_26 : decode cX10_isStanding 26 = .ok (.iconst 0, 1) := gdX10_isStanding_0.2.2.2.2.2.2.2.2.2.2.2.2.1
theorem dX10_isStanding_27 : decode cX10_isStanding 27 = .ok (.ireturn, 1) := gdX10_isStanding_0.2.2.2.2.2.2.2.2.2.2.2.2.2
theorem gdX10_isRuleOrNone_0 : (decode cX10_isRuleOrNone 0 = .ok (.iload_n 1, 1)) ∧ (decode cX10_isRuleOrNone 1 = .ok (.iconst (-1), 1)) ∧ (decode cX10_isRuleOrNone 2 = .ok (.aload_n 0, 1)) ∧ (decode cX10_isRuleOrNone 3 = .ok (.getfield 79, 3)) ∧ (decode cX10_isRuleOrNone 6 = .ok (.iconst 1, 1)) ∧ (decode cX10_isRuleOrNone 7 = .ok (.isub, 1)) ∧ (decode cX10_isRuleOrNone 8 = .ok (.invokestatic 91, 3)) ∧ (decode cX10_isRuleOrNone 11 = .ok (.ireturn, 1)) := by decide +kernel
theorem dX10_isRuleOrNone_0 : decode cX10_isRuleOrNone 0 = .ok (.iload_n 1, 1) := gdX10_isRuleOrNone_0.1
theorem dX10_isRuleOrNone_1 : decode cX10_isRuleOrNone 1 = .ok (.iconst (-1), 1) := gdX10_isRuleOrNone_0.2.1
theorem dX10_isRuleOrNone_2 : decode cX10_isRuleOrNone 2 = .ok (.aload_n 0, 1) := gdX10_isRuleOrNone_0.2.2.1
theorem dX10_isRuleOrNone_3 : decode cX10_isRuleOrNone 3 = .ok (.getfield 79, 3) := gdX10_isRuleOrNone_0.2.2.2.1
theorem dX10_isRuleOrNone_6 : decode cX10_isRuleOrNone 6 = .ok (.iconst 1, 1) := gdX10_isRuleOrNone_0.2.2.2.2.1
theorem dX10_isRuleOrNone_7 : decode cX10_isRuleOrNone 7 = .ok (.isub, 1) := gdX10_isRuleOrNone_0.2.2.2.2.2.1
theorem dX10_isRuleOrNone_8 : decode cX10_isRuleOrNone 8 = .ok (.invokestatic 91, 3) := gdX10_isRuleOrNone_0.2.2.2.2.2.2.1
theorem dX10_isRuleOrNone_11 : decode cX10_isRuleOrNone 11 = .ok (.ireturn, 1) := gdX10_isRuleOrNone_0.2.2.2.2.2.2.2
theorem gdX10_ruleOrNull_0 : (decode cX10_ruleOrNull 0 = .ok (.iload_n 1, 1)) ∧ (decode cX10_ruleOrNull 1 = .ok (.iconst 0, 1)) ∧ (decode cX10_ruleOrNull 2 = .ok (.aload_n 0, 1)) ∧ (decode cX10_ruleOrNull 3 = .ok (.getfield 79, 3)) ∧ (decode cX10_ruleOrNull 6 = .ok (.iconst 1, 1)) ∧ (decode cX10_ruleOrNull 7 = .ok (.isub, 1)) ∧ (decode cX10_ruleOrNull 8 = .ok (.invokestatic 91, 3)) ∧ (decode cX10_ruleOrNull 11 = .ok (.ifCond .eq 12, 3)) ∧ (decode cX10_ruleOrNull 14 = .ok (.aload_n 0, 1)) ∧ (decode cX10_ruleOrNull 15 = .ok (.getfield 29, 3)) ∧ (decode cX10_ruleOrNull 18 = .ok (.iload_n 1, 1)) ∧ (decode cX10_ruleOrNull 19 = .ok (.aaload, 1)) ∧ (decode cX10_ruleOrNull 20 = .ok (.goto 4, 3)) ∧ (decode cX10_ruleOrNull 23 = .ok (.aconst_null, 1)) ∧ (decode cX10_ruleOrNull 24 = .ok (.areturn, 1)) := by decide +kernel
theorem dX10_ruleOrNull_0 : decode cX10_ruleOrNull 0 = .ok (.iload_n 1, 1) := gdX10_ruleOrNull_0.1
theorem dX10_ruleOrNull_1 : decode cX10_ruleOrNull 1 = .ok (.iconst 0, 1) := gdX10_ruleOrNull_0.2.1
theorem dX10_ruleOrNull_2 : decode cX10_ruleOrNull 2 = .ok (.aload_n 0, 1) := gdX10_ruleOrNull_0.2.2.1
theorem dX10_ruleOrNull_3 : decode cX10_ruleOrNull 3 = .ok (.getfield 79, 3) := gdX10_ruleOrNull_0.2.2.2.1
theorem dX10_ruleOrNull_6 : decode cX10_ruleOrNull 6 = .ok (.iconst 1, 1) := gdX10_ruleOrNull_0.2.2.2.2.1
theorem dX10_ruleOrNull_7 : decode cX10_ruleOrNull 7 = .ok (.isub, 1) := gdX10_ruleOrNull_0.2.2.2.2.2.1
theorem dX10_ruleOrNull_8 : decode cX10_ruleOrNull 8 = .ok (.invokestatic 91, 3) := gdX10_ruleOrNull_0.2.2.2.2.2.2.1
theorem dX10_ruleOrNull_11 : decode cX10_ruleOrNull 11 = .ok (.ifCond .eq 12, 3) := gdX10_ruleOrNull_0.2.2.2.2.2.2.2.1
theorem dX10_ruleOrNull_14 : decode cX10_ruleOrNull 14 = .ok (.aload_n 0, 1) := gdX10_ruleOrNull_0.2.2.2.2.2.2.2.2.1
theorem dX10_ruleOrNull_15 : decode cX10_ruleOrNull 15 = .ok (.getfield 29, 3) := gdX10_ruleOrNull_0.2.2.2.2.2.2.2.2.2.1
theorem dX10_ruleOrNull_18 : decode cX10_ruleOrNull 18 = .ok (.iload_n 1, 1) := gdX10_ruleOrNull_0.2.2.2.2.2.2.2.2.2.2.1
theorem dX10_ruleOrNull_19 : decode cX10_ruleOrNull 19 = .ok (.aaload, 1) := gdX10_ruleOrNull_0.2.2.2.2.2.2.2.2.2.2.2.1
theorem dX10_ruleOrNull_20 : decode cX10_ruleOrNull 20 = .ok (.goto 4, 3) := gdX10_ruleOrNull_0.2.2.2.2.2.2.2.2.2.2.2.2.1
theorem dX10_ruleOrNull_23 : decode cX10_ruleOrNull 23 = .ok (.aconst_null, 1) := gdX10_ruleOrNull_0.2.2.2.2.2.2.2.2.2.2.2.2.2.1
theorem dX10_ruleOrNull_24 : decode cX10_ruleOrNull 24 = .ok (.areturn, 1) := gdX10_ruleOrNull_0.2.2.2.2.2.2.2.2.2.2.2.2.2.2
theorem gdX10_lookAhead_0 : (decode cX10_lookAhead 0 = .ok (.aload_n 0, 1)) ∧ (decode cX10_lookAhead 1 = .ok (.getfield 43, 3)) ∧ (decode cX10_lookAhead 4 = .ok (.aload_n 0, 1)) ∧ (decode cX10_lookAhead 5 = .ok (.getfield 19, 3)) ∧ (decode cX10_lookAhead 8 = .ok (.getfield 109, 3)) ∧ (decode cX10_lookAhead 11 = .ok (.invokevirtual 112, 3)) ∧ (decode cX10_lookAhead 14 = .ok (.aload_n 0, 1)) ∧ (decode cX10_lookAhead 15 = .ok (.getfield 43, 3)) ∧ (decode cX10_lookAhead 18 = .ok (.aload_n 0, 1)) ∧ (decode cX10_lookAhead 19 = .ok (.getfield 19, 3)) ∧ (decode cX10_lookAhead 22 = .ok (.getfield 102, 3)) ∧ (decode cX10_lookAhead 25 = .ok (.aload_n 0, 1)) ∧ (decode cX10_lookAhead 26 = .ok (.iload_n 1, 1)) ∧ (decode cX10_lookAhead 27 = .ok (.invokevirtual 203, 3)) ∧ (decode cX10_lookAhead 30 = .ok (.iload_n 2, 1)) ∧ (decode cX10_lookAhead 31 = .ok (.invokevirtual 207, 3)) := by decide +kernel
theorem dX10_lookAhead_0 : decode cX10_lookAhead 0 = .ok (.aload_n 0, 1) := gdX10_lookAhead_0.1
theorem dX10_lookAhead_1 : decode cX10_lookAhead 1 = .ok (.getfield 43, 3) := gdX10_lookAhead_0.2.1
theorem dX10_lookAhead_4 : decode cX10_lookAhead 4 = .ok (.aload_n 0, 1) := gdX10_lookAhead_0.2.2.1
theorem dX10_lookAhead_5 : decode cX10_lookAhead 5 = .ok (.getfield 19, 3) := gdX10_lookAhead_0.2.2.2.1
theorem dX10_lookAhead_8 : decode cX10_lookAhead 8 = .ok (.getfield 109, 3) := gdX10_lookAhead_0.2.2.2.2.1
theorem dX10_lookAhead_11 : decode cX10_lookAhead 11 = .ok (.invokevirtual 112, 3) := gdX10_lookAhead_0.2.2.2.2.2.1
theorem dX10_lookAhead_14 : decode cX10_lookAhead 14 = .ok (.aload_n 0, 1) := gdX10_lookAhead_0.2.2.2.2.2.2.1
theorem dX10_lookAhead_15 : decode cX10_lookAhead 15 = .ok (.getfield 43, 3) := gdX10_lookAhead_0.2.2.2.2.2.2.2.1
theorem dX10_lookAhead_18 : decode cX10_lookAhead 18 = .ok (.aload_n 0, 1) := gdX10_lookAhead_0.2.2.2.2.2.2.2.2.1
theorem dX10_lookAhead_19 : decode cX10_lookAhead 19 = .ok (.getfield 19, 3) := gdX10_lookAhead_0.2.2.2.2.2.2.2.2.2.1
theorem dX10_lookAhead_22 : decode cX10_lookAhead 22 = .ok (.getfield 102, 3) := gdX10_lookAhead_0.2.2.2.2.2.2.2.2.2.2.1
theorem dX10_lookAhead_25 : decode cX10_lookAhead 25 = .ok (.aload_n 0, 1) := gdX10_lookAhead_0.2.2.2.2.2.2.2.2.2.2.2.1
theorem dX10_lookAhead_26 : decode cX10_lookAhead 26 = .ok (.iload_n 1, 1) := gdX10_lookAhead_0.2.2.2.2.2.2.2.2.2.2.2.2.1
theorem dX10_lookAhead_27 : decode cX10_lookAhead 27 = .ok (.invokevirtual 203, 3) := gdX10_lookAhead_0.2.2.2.2.2.2.2.2.2.2.2.2.2.1
theorem dX10_lookAhead_30 : decode cX10_lookAhead 30 = .ok (.iload_n 2, 1) := gdX10_lookAhead_0.2.2.2.2.2.2.2.2.2.2.2.2.2.2.1
theorem dX10_lookAhead_31 : decode cX10_lookAhead 31 = .ok (.invokevirtual 207, 3) := gdX10_lookAhead_0.2.2.2.2.2.2.2.2.2.2.2.2.2.2.2
theorem dX10_lookAhead_34 : decode cX10_lookAhead 34 = .ok (.return_, 1) := by decide +kernel
theorem gdX10_hoursMet_0 : (decode cX10_hoursMet 0 = .ok (.iconst 0, 1)) ∧ (decode cX10_hoursMet 1 = .ok (.istore 4, 2)) ∧ (decode cX10_hoursMet 3 = .ok (.aload_n 0, 1)) ∧ (decode cX10_hoursMet 4 = .ok (.getfield 43, 3)) ∧ (decode cX10_hoursMet 7 = .ok (.aload_n 0, 1)) ∧ (decode cX10_hoursMet 8 = .ok (.getfield 19, 3)) ∧ (decode cX10_hoursMet 11 = .ok (.getfield 109, 3)) ∧ (decode cX10_hoursMet 14 = .ok (.invokevirtual 112, 3)) ∧ (decode cX10_hoursMet 17 = .ok (.iconst 0, 1)) ∧ (decode cX10_hoursMet 18 = .ok (.istore 5, 2)) ∧ (decode cX10_hoursMet 20 = .ok (.iload 5, 2)) ∧ (decode cX10_hoursMet 22 = .ok (.iload_n 3, 1)) ∧ (decode cX10_hoursMet 23 = .ok (.if_icmp .ge 42, 3)) ∧ (decode cX10_hoursMet 26 = .ok (.aload_n 0, 1)) ∧ (decode cX10_hoursMet 27 = .ok (.invokevirtual 339, 3)) ∧ (decode cX10_hoursMet 30 = .ok (.aload_n 0, 1)) := by decide +kernel
theorem dX10_hoursMet_0 : decode cX10_hoursMet 0 = .ok (.iconst 0, 1) := gdX10_hoursMet_0.1
theorem dX10_hoursMet_1 : decode cX10_hoursMet 1 = .ok (.istore 4, 2) := gdX10_hoursMet_0.2.1
theorem dX10_hoursMet_3 : decode cX10_hoursMet 3 = .ok (.aload_n 0, 1) := gdX10_hoursMet_0.2.2.1
theorem dX10_hoursMet_4 : decode cX10_hoursMet 4 = .ok (.getfield 43, 3) := gdX10_hoursMet_0.2.2.2.1
theorem dX10_hoursMet_7 : decode cX10_hoursMet 7 = .ok (.aload_n 0, 1) := gdX10_hoursMet_0.2.2.2.2.1
theorem dX10_hoursMet_8 : decode cX10_hoursMet 8 = .ok (.getfield 19, 3) := gdX10_hoursMet_0.2.2.2.2.2.1
theorem dX10_hoursMet_11 : decode cX10_hoursMet 11 = .ok (.getfield 109, 3) := gdX10_hoursMet_0.2.2.2.2.2.2.1
theorem dX10_hoursMet_14 : decode cX10_hoursMet 14 = .ok (.invokevirtual 112, 3) := gdX10_hoursMet_0.2.2.2.2.2.2.2.1
theorem dX10_hoursMet_17 : decode cX10_hoursMet 17 = .ok (.iconst 0, 1) := gdX10_hoursMet_0.2.2.2.2.2.2.2.2.1
theorem dX10_hoursMet_18 : decode cX10_hoursMet 18 = .ok (.istore 5, 2) := gdX10_hoursMet_0.2.2.2.2.2.2.2.2.2.1
theorem dX10_hoursMet_20 : decode cX10_hoursMet 20 = .ok (.iload 5, 2) := gdX10_hoursMet_0.2.2.2.2.2.2.2.2.2.2.1
theorem dX10_hoursMet_22 : decode cX10_hoursMet 22 = .ok (.iload_n 3, 1) := gdX10_hoursMet_0.2.2.2.2.2.2.2.2.2.2.2.1
theorem dX10_hoursMet_23 : decode cX10_hoursMet 23 = .ok (.if_icmp .ge 42, 3) := gdX10_hoursMet_0.2.2.2.2.2.2.2.2.2.2.2.2.1
theorem dX10_hoursMet_26 : decode cX10_hoursMet 26 = .ok (.aload_n 0, 1) := gdX10_hoursMet_0.2.2.2.2.2.2.2.2.2.2.2.2.2.1
theorem dX10_hoursMet_27 : decode cX10_hoursMet 27 = .ok (.invokevirtual 339, 3) := gdX10_hoursMet_0.2.2.2.2.2.2.2.2.2.2.2.2.2.2.1
theorem dX10_hoursMet_30 : decode cX10_hoursMet 30 = .ok (.aload_n 0, 1) := gdX10_hoursMet_0.2.2.2.2.2.2.2.2.2.2.2.2.2.2.2
theorem gdX10_hoursMet_31 : (decode cX10_hoursMet 31 = .ok (.getfield 43, 3)) ∧ (decode cX10_hoursMet 34 = .ok (.aload_n 0, 1)) ∧ (decode cX10_hoursMet 35 = .ok (.getfield 19, 3)) ∧ (decode cX10_hoursMet 38 = .ok (.getfield 102, 3)) ∧ (decode cX10_hoursMet 41 = .ok (.invokevirtual 342, 3)) ∧ (decode cX10_hoursMet 44 = .ok (.aload_n 0, 1)) ∧ (decode cX10_hoursMet 45 = .ok (.getfield 43, 3)) ∧ (decode cX10_hoursMet 48 = .ok (.iload_n 1, 1)) ∧ (decode cX10_hoursMet 49 = .ok (.iload_n 2, 1)) ∧ (decode cX10_hoursMet 50 = .ok (.invokevirtual 345, 3)) ∧ (decode cX10_hoursMet 53 = .ok (.ifCond .eq 6, 3)) ∧ (decode cX10_hoursMet 56 = .ok (.iinc 4 1, 3)) ∧ (decode cX10_hoursMet 59 = .ok (.iinc 5 1, 3)) ∧ (decode cX10_hoursMet 62 = .ok (.goto (-42), 3)) ∧ (decode cX10_hoursMet 65 = .ok (.iload 4, 2)) ∧ (decode cX10_hoursMet 67 = .ok (.ireturn, 1)) := by decide +kernel
theorem dX10_hoursMet_31 : decode cX10_hoursMet 31 = .ok (.getfield 43, 3) := gdX10_hoursMet_31.1
theorem dX10_hoursMet_34 : decode cX10_hoursMet 34 = .ok (.aload_n 0, 1) := gdX10_hoursMet_31.2.1
theorem dX10_hoursMet_35 : decode cX10_hoursMet 35 = .ok (.getfield 19, 3) := gdX10_hoursMet_31.2.2.1
theorem dX10_hoursMet_38 : decode cX10_hoursMet 38 = .ok (.getfield 102, 3) := gdX10_hoursMet_31.2.2.2.1
theorem dX10_hoursMet_41 : decode cX10_hoursMet 41 = .ok (.invokevirtual 342, 3) := gdX10_hoursMet_31.2.2.2.2.1
theorem dX10_hoursMet_44 : decode cX10_hoursMet 44 = .ok (.aload_n 0, 1) := gdX10_hoursMet_31.2.2.2.2.2.1
theorem dX10_hoursMet_45 : decode cX10_hoursMet 45 = .ok (.getfield 43, 3) := gdX10_hoursMet_31.2.2.2.2.2.2.1
theorem dX10_hoursMet_48 : decode cX10_hoursMet 48 = .ok (.iload_n 1, 1) := gdX10_hoursMet_31.2.2.2.2.2.2.2.1
theorem dX10_hoursMet_49 : decode cX10_hoursMet 49 = .ok (.iload_n 2, 1) := gdX10_hoursMet_31.2.2.2.2.2.2.2.2.1
theorem dX10_hoursMet_50 : decode cX10_hoursMet 50 = .ok (.invokevirtual 345, 3) := gdX10_hoursMet_31.2.2.2.2.2.2.2.2.2.1
theorem dX10_hoursMet_53 : decode cX10_hoursMet 53 = .ok (.ifCond .eq 6, 3) := gdX10_hoursMet_31.2.2.2.2.2.2.2.2.2.2.1
theorem dX10_hoursMet_56 : decode cX10_hoursMet 56 = .ok (.iinc 4 1, 3) := gdX10_hoursMet_31.2.2.2.2.2.2.2.2.2.2.2.1
theorem dX10_hoursMet_59 : decode cX10_hoursMet 59 = .ok (.iinc 5 1, 3) := gdX10_hoursMet_31.2.2.2.2.2.2.2.2.2.2.2.2.1
theorem dX10_hoursMet_62 : decode cX10_hoursMet 62 = .ok (.goto (-42), 3) := gdX10_hoursMet_31.2.2.2.2.2.2.2.2.2.2.2.2.2.1
theorem dX10_hoursMet_65 : decode cX10_hoursMet 65 = .ok (.iload 4, 2) := gdX10_hoursMet_31.2.2.2.2.2.2.2.2.2.2.2.2.2.2.1
theorem dX10_hoursMet_67 : decode cX10_hoursMet 67 = .ok (.ireturn, 1) := gdX10_hoursMet_31.2.2.2.2.2.2.2.2.2.2.2.2.2.2.2
theorem gdX10_wander_0 : (decode cX10_wander 0 = .ok (.iconst 0, 1)) ∧ (decode cX10_wander 1 = .ok (.istore_n 1, 1)) ∧ (decode cX10_wander 2 = .ok (.iload_n 1, 1)) ∧ (decode cX10_wander 3 = .ok (.aload_n 0, 1)) ∧ (decode cX10_wander 4 = .ok (.getfield 43, 3)) ∧ (decode cX10_wander 7 = .ok (.getfield 285, 3)) ∧ (decode cX10_wander 10 = .ok (.if_icmp .ge 114, 3)) ∧ (decode cX10_wander 13 = .ok (.aload_n 0, 1)) ∧ (decode cX10_wander 14 = .ok (.getfield 43, 3)) ∧ (decode cX10_wander 17 = .ok (.iload_n 1, 1)) ∧ (decode cX10_wander 18 = .ok (.invokevirtual 215, 3)) ∧ (decode cX10_wander 21 = .ok (.ifCond .ne 6, 3)) ∧ (decode cX10_wander 24 = .ok (.goto 94, 3)) ∧ (decode cX10_wander 27 = .ok (.aload_n 0, 1)) ∧ (decode cX10_wander 28 = .ok (.getfield 43, 3)) ∧ (decode cX10_wander 31 = .ok (.getfield 170, 3)) := by decide +kernel
theorem dX10_wander_0 : decode cX10_wander 0 = .ok (.iconst 0, 1) := gdX10_wander_0.1
theorem dX10_wander_1 : decode cX10_wander 1 = .ok (.istore_n 1, 1) := gdX10_wander_0.2.1
theorem dX10_wander_2 : decode cX10_wander 2 = .ok (.iload_n 1, 1) := gdX10_wander_0.2.2.1
theorem dX10_wander_3 : decode cX10_wander 3 = .ok (.aload_n 0, 1) := gdX10_wander_0.2.2.2.1
theorem dX10_wander_4 : decode cX10_wander 4 = .ok (.getfield 43, 3) := gdX10_wander_0.2.2.2.2.1
theorem dX10_wander_7 : decode cX10_wander 7 = .ok (.getfield 285, 3) := gdX10_wander_0.2.2.2.2.2.1
theorem dX10_wander_10 : decode cX10_wander 10 = .ok (.if_icmp .ge 114, 3) := gdX10_wander_0.2.2.2.2.2.2.1
theorem dX10_wander_13 : decode cX10_wander 13 = .ok (.aload_n 0, 1) := gdX10_wander_0.2.2.2.2.2.2.2.1
theorem dX10_wander_14 : decode cX10_wander 14 = .ok (.getfield 43, 3) := gdX10_wander_0.2.2.2.2.2.2.2.2.1
theorem dX10_wander_17 : decode cX10_wander 17 = .ok (.iload_n 1, 1) := gdX10_wander_0.2.2.2.2.2.2.2.2.2.1
theorem dX10_wander_18 : decode cX10_wander 18 = .ok (.invokevirtual 215, 3) := gdX10_wander_0.2.2.2.2.2.2.2.2.2.2.1
theorem dX10_wander_21 : decode cX10_wander 21 = .ok (.ifCond .ne 6, 3) := gdX10_wander_0.2.2.2.2.2.2.2.2.2.2.2.1
theorem dX10_wander_24 : decode cX10_wander 24 = .ok (.goto 94, 3) := gdX10_wander_0.2.2.2.2.2.2.2.2.2.2.2.2.1
theorem dX10_wander_27 : decode cX10_wander 27 = .ok (.aload_n 0, 1) := gdX10_wander_0.2.2.2.2.2.2.2.2.2.2.2.2.2.1
theorem dX10_wander_28 : decode cX10_wander 28 = .ok (.getfield 43, 3) := gdX10_wander_0.2.2.2.2.2.2.2.2.2.2.2.2.2.2.1
theorem dX10_wander_31 : decode cX10_wander 31 = .ok (.getfield 170, 3) := gdX10_wander_0.2.2.2.2.2.2.2.2.2.2.2.2.2.2.2
theorem gdX10_wander_34 : (decode cX10_wander 34 = .ok (.iload_n 1, 1)) ∧ (decode cX10_wander 35 = .ok (.iaload, 1)) ∧ (decode cX10_wander 36 = .ok (.istore_n 2, 1)) ∧ (decode cX10_wander 37 = .ok (.aload_n 0, 1)) ∧ (decode cX10_wander 38 = .ok (.getfield 19, 3)) ∧ (decode cX10_wander 41 = .ok (.invokevirtual 349, 3)) ∧ (decode cX10_wander 44 = .ok (.iconst 4, 1)) ∧ (decode cX10_wander 45 = .ok (.irem, 1)) ∧ (decode cX10_wander 46 = .ok (.ifCond .ne 7, 3)) ∧ (decode cX10_wander 49 = .ok (.iconst 1, 1)) ∧ (decode cX10_wander 50 = .ok (.goto 4, 3)) ∧ (decode cX10_wander 53 = .ok (.iconst 0, 1)) ∧ (decode cX10_wander 54 = .ok (.istore_n 3, 1)) ∧ (decode cX10_wander 55 = .ok (.aload_n 0, 1)) ∧ (decode cX10_wander 56 = .ok (.getfield 19, 3)) ∧ (decode cX10_wander 59 = .ok (.getfield 102, 3)) := by decide +kernel
theorem dX10_wander_34 : decode cX10_wander 34 = .ok (.iload_n 1, 1) := gdX10_wander_34.1
theorem dX10_wander_35 : decode cX10_wander 35 = .ok (.iaload, 1) := gdX10_wander_34.2.1
theorem dX10_wander_36 : decode cX10_wander 36 = .ok (.istore_n 2, 1) := gdX10_wander_34.2.2.1
theorem dX10_wander_37 : decode cX10_wander 37 = .ok (.aload_n 0, 1) := gdX10_wander_34.2.2.2.1
theorem dX10_wander_38 : decode cX10_wander 38 = .ok (.getfield 19, 3) := gdX10_wander_34.2.2.2.2.1
theorem dX10_wander_41 : decode cX10_wander 41 = .ok (.invokevirtual 349, 3) := gdX10_wander_34.2.2.2.2.2.1
theorem dX10_wander_44 : decode cX10_wander 44 = .ok (.iconst 4, 1) := gdX10_wander_34.2.2.2.2.2.2.1
theorem dX10_wander_45 : decode cX10_wander 45 = .ok (.irem, 1) := gdX10_wander_34.2.2.2.2.2.2.2.1
theorem dX10_wander_46 : decode cX10_wander 46 = .ok (.ifCond .ne 7, 3) := gdX10_wander_34.2.2.2.2.2.2.2.2.1
theorem dX10_wander_49 : decode cX10_wander 49 = .ok (.iconst 1, 1) := gdX10_wander_34.2.2.2.2.2.2.2.2.2.1
theorem dX10_wander_50 : decode cX10_wander 50 = .ok (.goto 4, 3) := gdX10_wander_34.2.2.2.2.2.2.2.2.2.2.1
theorem dX10_wander_53 : decode cX10_wander 53 = .ok (.iconst 0, 1) := gdX10_wander_34.2.2.2.2.2.2.2.2.2.2.2.1
theorem dX10_wander_54 : decode cX10_wander 54 = .ok (.istore_n 3, 1) := gdX10_wander_34.2.2.2.2.2.2.2.2.2.2.2.2.1
theorem dX10_wander_55 : decode cX10_wander 55 = .ok (.aload_n 0, 1) := gdX10_wander_34.2.2.2.2.2.2.2.2.2.2.2.2.2.1
theorem dX10_wander_56 : decode cX10_wander 56 = .ok (.getfield 19, 3) := gdX10_wander_34.2.2.2.2.2.2.2.2.2.2.2.2.2.2.1
theorem dX10_wander_59 : decode cX10_wander 59 = .ok (.getfield 102, 3) := gdX10_wander_34.2.2.2.2.2.2.2.2.2.2.2.2.2.2.2
theorem gdX10_wander_62 : (decode cX10_wander 62 = .ok (.iload_n 2, 1)) ∧ (decode cX10_wander 63 = .ok (.invokevirtual 352, 3)) ∧ (decode cX10_wander 66 = .ok (.istore 4, 2)) ∧ (decode cX10_wander 68 = .ok (.iload_n 3, 1)) ∧ (decode cX10_wander 69 = .ok (.ifCond .eq 49, 3)) ∧ (decode cX10_wander 72 = .ok (.iload 4, 2)) ∧ (decode cX10_wander 74 = .ok (.ifCond .le 44, 3)) ∧ (decode cX10_wander 77 = .ok (.aload_n 0, 1)) ∧ (decode cX10_wander 78 = .ok (.getfield 19, 3)) ∧ (decode cX10_wander 81 = .ok (.getfield 102, 3)) ∧ (decode cX10_wander 84 = .ok (.iload_n 2, 1)) ∧ (decode cX10_wander 85 = .ok (.aload_n 0, 1)) ∧ (decode cX10_wander 86 = .ok (.getfield 19, 3)) ∧ (decode cX10_wander 89 = .ok (.invokevirtual 349, 3)) ∧ (decode cX10_wander 92 = .ok (.iload 4, 2)) ∧ (decode cX10_wander 94 = .ok (.irem, 1)) := by decide +kernel
theorem dX10_wander_62 : decode cX10_wander 62 = .ok (.iload_n 2, 1) := gdX10_wander_62.1
theorem dX10_wander_63 : decode cX10_wander 63 = .ok (.invokevirtual 352, 3) := gdX10_wander_62.2.1
theorem dX10_wander_66 : decode cX10_wander 66 = .ok (.istore 4, 2) := gdX10_wander_62.2.2.1
theorem dX10_wander_68 : decode cX10_wander 68 = .ok (.iload_n 3, 1) := gdX10_wander_62.2.2.2.1
theorem dX10_wander_69 : decode cX10_wander 69 = .ok (.ifCond .eq 49, 3) := gdX10_wander_62.2.2.2.2.1
theorem dX10_wander_72 : decode cX10_wander 72 = .ok (.iload 4, 2) := gdX10_wander_62.2.2.2.2.2.1
theorem dX10_wander_74 : decode cX10_wander 74 = .ok (.ifCond .le 44, 3) := gdX10_wander_62.2.2.2.2.2.2.1
theorem dX10_wander_77 : decode cX10_wander 77 = .ok (.aload_n 0, 1) := gdX10_wander_62.2.2.2.2.2.2.2.1
theorem dX10_wander_78 : decode cX10_wander 78 = .ok (.getfield 19, 3) := gdX10_wander_62.2.2.2.2.2.2.2.2.1
theorem dX10_wander_81 : decode cX10_wander 81 = .ok (.getfield 102, 3) := gdX10_wander_62.2.2.2.2.2.2.2.2.2.1
theorem dX10_wander_84 : decode cX10_wander 84 = .ok (.iload_n 2, 1) := gdX10_wander_62.2.2.2.2.2.2.2.2.2.2.1
theorem dX10_wander_85 : decode cX10_wander 85 = .ok (.aload_n 0, 1) := gdX10_wander_62.2.2.2.2.2.2.2.2.2.2.2.1
theorem dX10_wander_86 : decode cX10_wander 86 = .ok (.getfield 19, 3) := gdX10_wander_62.2.2.2.2.2.2.2.2.2.2.2.2.1
theorem dX10_wander_89 : decode cX10_wander 89 = .ok (.invokevirtual 349, 3) := gdX10_wander_62.2.2.2.2.2.2.2.2.2.2.2.2.2.1
theorem dX10_wander_92 : decode cX10_wander 92 = .ok (.iload 4, 2) := gdX10_wander_62.2.2.2.2.2.2.2.2.2.2.2.2.2.2.1
theorem dX10_wander_94 : decode cX10_wander 94 = .ok (.irem, 1) := gdX10_wander_62.2.2.2.2.2.2.2.2.2.2.2.2.2.2.2
theorem gdX10_wander_95 : (decode cX10_wander 95 = .ok (.invokevirtual 355, 3)) ∧ (decode cX10_wander 98 = .ok (.istore 5, 2)) ∧ (decode cX10_wander 100 = .ok (.aload_n 0, 1)) ∧ (decode cX10_wander 101 = .ok (.getfield 43, 3)) ∧ (decode cX10_wander 104 = .ok (.aload_n 0, 1)) ∧ (decode cX10_wander 105 = .ok (.getfield 19, 3)) ∧ (decode cX10_wander 108 = .ok (.getfield 102, 3)) ∧ (decode cX10_wander 111 = .ok (.iload_n 1, 1)) ∧ (decode cX10_wander 112 = .ok (.iload 5, 2)) ∧ (decode cX10_wander 114 = .ok (.invokevirtual 193, 3)) ∧ (decode cX10_wander 117 = .ok (.pop, 1)) ∧ (decode cX10_wander 118 = .ok (.iinc 1 1, 3)) ∧ (decode cX10_wander 121 = .ok (.goto (-119), 3)) ∧ (decode cX10_wander 124 = .ok (.return_, 1)) := by decide +kernel
theorem dX10_wander_95 : decode cX10_wander 95 = .ok (.invokevirtual 355, 3) := gdX10_wander_95.1
theorem dX10_wander_98 : decode cX10_wander 98 = .ok (.istore 5, 2) := gdX10_wander_95.2.1
theorem dX10_wander_100 : decode cX10_wander 100 = .ok (.aload_n 0, 1) := gdX10_wander_95.2.2.1
theorem dX10_wander_101 : decode cX10_wander 101 = .ok (.getfield 43, 3) := gdX10_wander_95.2.2.2.1
theorem dX10_wander_104 : decode cX10_wander 104 = .ok (.aload_n 0, 1) := gdX10_wander_95.2.2.2.2.1
theorem dX10_wander_105 : decode cX10_wander 105 = .ok (.getfield 19, 3) := gdX10_wander_95.2.2.2.2.2.1
theorem dX10_wander_108 : decode cX10_wander 108 = .ok (.getfield 102, 3) := gdX10_wander_95.2.2.2.2.2.2.1
theorem dX10_wander_111 : decode cX10_wander 111 = .ok (.iload_n 1, 1) := gdX10_wander_95.2.2.2.2.2.2.2.1
theorem dX10_wander_112 : decode cX10_wander 112 = .ok (.iload 5, 2) := gdX10_wander_95.2.2.2.2.2.2.2.2.1
theorem dX10_wander_114 : decode cX10_wander 114 = .ok (.invokevirtual 193, 3) := gdX10_wander_95.2.2.2.2.2.2.2.2.2.1
theorem dX10_wander_117 : decode cX10_wander 117 = .ok (.pop, 1) := gdX10_wander_95.2.2.2.2.2.2.2.2.2.2.1
theorem dX10_wander_118 : decode cX10_wander 118 = .ok (.iinc 1 1, 3) := gdX10_wander_95.2.2.2.2.2.2.2.2.2.2.2.1
theorem dX10_wander_121 : decode cX10_wander 121 = .ok (.goto (-119), 3) := gdX10_wander_95.2.2.2.2.2.2.2.2.2.2.2.2.1
theorem dX10_wander_124 : decode cX10_wander 124 = .ok (.return_, 1) := gdX10_wander_95.2.2.2.2.2.2.2.2.2.2.2.2.2
theorem gdX10_commonDivisor_0 : (decode cX10_commonDivisor 0 = .ok (.lload_n 0, 1)) ∧ (decode cX10_commonDivisor 1 = .ok (.invokestatic 255, 3)) ∧ (decode cX10_commonDivisor 4 = .ok (.lstore 4, 2)) ∧ (decode cX10_commonDivisor 6 = .ok (.lload_n 2, 1)) ∧ (decode cX10_commonDivisor 7 = .ok (.invokestatic 255, 3)) ∧ (decode cX10_commonDivisor 10 = .ok (.lstore 6, 2)) ∧ (decode cX10_commonDivisor 12 = .ok (.iconst 0, 1)) ∧ (decode cX10_commonDivisor 13 = .ok (.istore 8, 2)) ∧ (decode cX10_commonDivisor 15 = .ok (.iload 8, 2)) ∧ (decode cX10_commonDivisor 17 = .ok (.sipush 128, 3)) ∧ (decode cX10_commonDivisor 20 = .ok (.if_icmp .ge 31, 3)) ∧ (decode cX10_commonDivisor 23 = .ok (.lload 6, 2)) ∧ (decode cX10_commonDivisor 25 = .ok (.lconst 0, 1)) ∧ (decode cX10_commonDivisor 26 = .ok (.lcmp, 1)) ∧ (decode cX10_commonDivisor 27 = .ok (.ifCond .eq 24, 3)) ∧ (decode cX10_commonDivisor 30 = .ok (.lload 4, 2)) := by decide +kernel
theorem dX10_commonDivisor_0 : decode cX10_commonDivisor 0 = .ok (.lload_n 0, 1) := gdX10_commonDivisor_0.1
theorem dX10_commonDivisor_1 : decode cX10_commonDivisor 1 = .ok (.invokestatic 255, 3) := gdX10_commonDivisor_0.2.1
theorem dX10_commonDivisor_4 : decode cX10_commonDivisor 4 = .ok (.lstore 4, 2) := gdX10_commonDivisor_0.2.2.1
theorem dX10_commonDivisor_6 : decode cX10_commonDivisor 6 = .ok (.lload_n 2, 1) := gdX10_commonDivisor_0.2.2.2.1
theorem dX10_commonDivisor_7 : decode cX10_commonDivisor 7 = .ok (.invokestatic 255, 3) := gdX10_commonDivisor_0.2.2.2.2.1
theorem dX10_commonDivisor_10 : decode cX10_commonDivisor 10 = .ok (.lstore 6, 2) := gdX10_commonDivisor_0.2.2.2.2.2.1
theorem dX10_commonDivisor_12 : decode cX10_commonDivisor 12 = .ok (.iconst 0, 1) := gdX10_commonDivisor_0.2.2.2.2.2.2.1
theorem dX10_commonDivisor_13 : decode cX10_commonDivisor 13 = .ok (.istore 8, 2) := gdX10_commonDivisor_0.2.2.2.2.2.2.2.1
theorem dX10_commonDivisor_15 : decode cX10_commonDivisor 15 = .ok (.iload 8, 2) := gdX10_commonDivisor_0.2.2.2.2.2.2.2.2.1
theorem dX10_commonDivisor_17 : decode cX10_commonDivisor 17 = .ok (.sipush 128, 3) := gdX10_commonDivisor_0.2.2.2.2.2.2.2.2.2.1
theorem dX10_commonDivisor_20 : decode cX10_commonDivisor 20 = .ok (.if_icmp .ge 31, 3) := gdX10_commonDivisor_0.2.2.2.2.2.2.2.2.2.2.1
theorem dX10_commonDivisor_23 : decode cX10_commonDivisor 23 = .ok (.lload 6, 2) := gdX10_commonDivisor_0.2.2.2.2.2.2.2.2.2.2.2.1
theorem dX10_commonDivisor_25 : decode cX10_commonDivisor 25 = .ok (.lconst 0, 1) := gdX10_commonDivisor_0.2.2.2.2.2.2.2.2.2.2.2.2.1
theorem dX10_commonDivisor_26 : decode cX10_commonDivisor 26 = .ok (.lcmp, 1) := gdX10_commonDivisor_0.2.2.2.2.2.2.2.2.2.2.2.2.2.1
theorem dX10_commonDivisor_27 : decode cX10_commonDivisor 27 = .ok (.ifCond .eq 24, 3) := gdX10_commonDivisor_0.2.2.2.2.2.2.2.2.2.2.2.2.2.2.1
theorem dX10_commonDivisor_30 : decode cX10_commonDivisor 30 = .ok (.lload 4, 2) := gdX10_commonDivisor_0.2.2.2.2.2.2.2.2.2.2.2.2.2.2.2
theorem gdX10_commonDivisor_32 : (decode cX10_commonDivisor 32 = .ok (.lload 6, 2)) ∧ (decode cX10_commonDivisor 34 = .ok (.lrem, 1)) ∧ (decode cX10_commonDivisor 35 = .ok (.lstore 9, 2)) ∧ (decode cX10_commonDivisor 37 = .ok (.lload 6, 2)) ∧ (decode cX10_commonDivisor 39 = .ok (.lstore 4, 2)) ∧ (decode cX10_commonDivisor 41 = .ok (.lload 9, 2)) ∧ (decode cX10_commonDivisor 43 = .ok (.lstore 6, 2)) ∧ (decode cX10_commonDivisor 45 = .ok (.iinc 8 1, 3)) ∧ (decode cX10_commonDivisor 48 = .ok (.goto (-33), 3)) ∧ (decode cX10_commonDivisor 51 = .ok (.lload 4, 2)) ∧ (decode cX10_commonDivisor 53 = .ok (.lreturn, 1)) := by decide +kernel
theorem dX10_commonDivisor_32 : decode cX10_commonDivisor 32 = .ok (.lload 6, 2) := gdX10_commonDivisor_32.1
theorem dX10_commonDivisor_34 : decode cX10_commonDivisor 34 = .ok (.lrem, 1) := gdX10_commonDivisor_32.2.1
theorem dX10_commonDivisor_35 : decode cX10_commonDivisor 35 = .ok (.lstore 9, 2) := gdX10_commonDivisor_32.2.2.1
theorem dX10_commonDivisor_37 : decode cX10_commonDivisor 37 = .ok (.lload 6, 2) := gdX10_commonDivisor_32.2.2.2.1
theorem dX10_commonDivisor_39 : decode cX10_commonDivisor 39 = .ok (.lstore 4, 2) := gdX10_commonDivisor_32.2.2.2.2.1
theorem dX10_commonDivisor_41 : decode cX10_commonDivisor 41 = .ok (.lload 9, 2) := gdX10_commonDivisor_32.2.2.2.2.2.1
theorem dX10_commonDivisor_43 : decode cX10_commonDivisor 43 = .ok (.lstore 6, 2) := gdX10_commonDivisor_32.2.2.2.2.2.2.1
theorem dX10_commonDivisor_45 : decode cX10_commonDivisor 45 = .ok (.iinc 8 1, 3) := gdX10_commonDivisor_32.2.2.2.2.2.2.2.1
theorem dX10_commonDivisor_48 : decode cX10_commonDivisor 48 = .ok (.goto (-33), 3) := gdX10_commonDivisor_32.2.2.2.2.2.2.2.2.1
theorem dX10_commonDivisor_51 : decode cX10_commonDivisor 51 = .ok (.lload 4, 2) := gdX10_commonDivisor_32.2.2.2.2.2.2.2.2.2.1
theorem dX10_commonDivisor_53 : decode cX10_commonDivisor 53 = .ok (.lreturn, 1) := gdX10_commonDivisor_32.2.2.2.2.2.2.2.2.2.2
theorem gdX10_lowest_0 : (decode cX10_lowest 0 = .ok (.lload_n 0, 1)) ∧ (decode cX10_lowest 1 = .ok (.lload_n 2, 1)) ∧ (decode cX10_lowest 2 = .ok (.invokestatic 236, 3)) ∧ (decode cX10_lowest 5 = .ok (.lstore 5, 2)) ∧ (decode cX10_lowest 7 = .ok (.lload 5, 2)) ∧ (decode cX10_lowest 9 = .ok (.lconst 0, 1)) ∧ (decode cX10_lowest 10 = .ok (.lcmp, 1)) ∧ (decode cX10_lowest 11 = .ok (.ifCond .ne 7, 3)) ∧ (decode cX10_lowest 14 = .ok (.ldc2_w 185, 3)) ∧ (decode cX10_lowest 17 = .ok (.lreturn, 1)) ∧ (decode cX10_lowest 18 = .ok (.iload 4, 2)) ∧ (decode cX10_lowest 20 = .ok (.ifCond .ne 7, 3)) ∧ (decode cX10_lowest 23 = .ok (.lload_n 0, 1)) ∧ (decode cX10_lowest 24 = .ok (.goto 4, 3)) ∧ (decode cX10_lowest 27 = .ok (.lload_n 2, 1)) ∧ (decode cX10_lowest 28 = .ok (.lload 5, 2)) := by decide +kernel
theorem dX10_lowest_0 : decode cX10_lowest 0 = .ok (.lload_n 0, 1) := gdX10_lowest_0.1
theorem dX10_lowest_1 : decode cX10_lowest 1 = .ok (.lload_n 2, 1) := gdX10_lowest_0.2.1
theorem dX10_lowest_2 : decode cX10_lowest 2 = .ok (.invokestatic 236, 3) := gdX10_lowest_0.2.2.1
theorem dX10_lowest_5 : decode cX10_lowest 5 = .ok (.lstore 5, 2) := gdX10_lowest_0.2.2.2.1
theorem dX10_lowest_7 : decode cX10_lowest 7 = .ok (.lload 5, 2) := gdX10_lowest_0.2.2.2.2.1
theorem dX10_lowest_9 : decode cX10_lowest 9 = .ok (.lconst 0, 1) := gdX10_lowest_0.2.2.2.2.2.1
theorem dX10_lowest_10 : decode cX10_lowest 10 = .ok (.lcmp, 1) := gdX10_lowest_0.2.2.2.2.2.2.1
theorem dX10_lowest_11 : decode cX10_lowest 11 = .ok (.ifCond .ne 7, 3) := gdX10_lowest_0.2.2.2.2.2.2.2.1
theorem dX10_lowest_14 : decode cX10_lowest 14 = .ok (.ldc2_w 185, 3) := gdX10_lowest_0.2.2.2.2.2.2.2.2.1
theorem dX10_lowest_17 : decode cX10_lowest 17 = .ok (.lreturn, 1) := gdX10_lowest_0.2.2.2.2.2.2.2.2.2.1
theorem dX10_lowest_18 : decode cX10_lowest 18 = .ok (.iload 4, 2) := gdX10_lowest_0.2.2.2.2.2.2.2.2.2.2.1
theorem dX10_lowest_20 : decode cX10_lowest 20 = .ok (.ifCond .ne 7, 3) := gdX10_lowest_0.2.2.2.2.2.2.2.2.2.2.2.1
theorem dX10_lowest_23 : decode cX10_lowest 23 = .ok (.lload_n 0, 1) := gdX10_lowest_0.2.2.2.2.2.2.2.2.2.2.2.2.1
theorem dX10_lowest_24 : decode cX10_lowest 24 = .ok (.goto 4, 3) := gdX10_lowest_0.2.2.2.2.2.2.2.2.2.2.2.2.2.1
theorem dX10_lowest_27 : decode cX10_lowest 27 = .ok (.lload_n 2, 1) := gdX10_lowest_0.2.2.2.2.2.2.2.2.2.2.2.2.2.2.1
theorem dX10_lowest_28 : decode cX10_lowest 28 = .ok (.lload 5, 2) := gdX10_lowest_0.2.2.2.2.2.2.2.2.2.2.2.2.2.2.2
theorem gdX10_lowest_30 : (decode cX10_lowest 30 = .ok (.ldiv, 1)) ∧ (decode cX10_lowest 31 = .ok (.lreturn, 1)) := by decide +kernel
theorem dX10_lowest_30 : decode cX10_lowest 30 = .ok (.ldiv, 1) := gdX10_lowest_30.1
theorem dX10_lowest_31 : decode cX10_lowest 31 = .ok (.lreturn, 1) := gdX10_lowest_30.2
theorem gdX10_upwards_0 : (decode cX10_upwards 0 = .ok (.lload_n 2, 1)) ∧ (decode cX10_upwards 1 = .ok (.lconst 0, 1)) ∧ (decode cX10_upwards 2 = .ok (.lcmp, 1)) ∧ (decode cX10_upwards 3 = .ok (.ifCond .gt 9, 3)) ∧ (decode cX10_upwards 6 = .ok (.ldc2_w 185, 3)) ∧ (decode cX10_upwards 9 = .ok (.goto 10, 3)) ∧ (decode cX10_upwards 12 = .ok (.lload_n 0, 1)) ∧ (decode cX10_upwards 13 = .ok (.lload_n 2, 1)) ∧ (decode cX10_upwards 14 = .ok (.ladd, 1)) ∧ (decode cX10_upwards 15 = .ok (.lconst 1, 1)) ∧ (decode cX10_upwards 16 = .ok (.lsub, 1)) ∧ (decode cX10_upwards 17 = .ok (.lload_n 2, 1)) ∧ (decode cX10_upwards 18 = .ok (.ldiv, 1)) ∧ (decode cX10_upwards 19 = .ok (.lreturn, 1)) := by decide +kernel
theorem dX10_upwards_0 : decode cX10_upwards 0 = .ok (.lload_n 2, 1) := gdX10_upwards_0.1
theorem dX10_upwards_1 : decode cX10_upwards 1 = .ok (.lconst 0, 1) := gdX10_upwards_0.2.1
theorem dX10_upwards_2 : decode cX10_upwards 2 = .ok (.lcmp, 1) := gdX10_upwards_0.2.2.1
theorem dX10_upwards_3 : decode cX10_upwards 3 = .ok (.ifCond .gt 9, 3) := gdX10_upwards_0.2.2.2.1
theorem dX10_upwards_6 : decode cX10_upwards 6 = .ok (.ldc2_w 185, 3) := gdX10_upwards_0.2.2.2.2.1
theorem dX10_upwards_9 : decode cX10_upwards 9 = .ok (.goto 10, 3) := gdX10_upwards_0.2.2.2.2.2.1
theorem dX10_upwards_12 : decode cX10_upwards 12 = .ok (.lload_n 0, 1) := gdX10_upwards_0.2.2.2.2.2.2.1
theorem dX10_upwards_13 : decode cX10_upwards 13 = .ok (.lload_n 2, 1) := gdX10_upwards_0.2.2.2.2.2.2.2.1
theorem dX10_upwards_14 : decode cX10_upwards 14 = .ok (.ladd, 1) := gdX10_upwards_0.2.2.2.2.2.2.2.2.1
theorem dX10_upwards_15 : decode cX10_upwards 15 = .ok (.lconst 1, 1) := gdX10_upwards_0.2.2.2.2.2.2.2.2.2.1
theorem dX10_upwards_16 : decode cX10_upwards 16 = .ok (.lsub, 1) := gdX10_upwards_0.2.2.2.2.2.2.2.2.2.2.1
theorem dX10_upwards_17 : decode cX10_upwards 17 = .ok (.lload_n 2, 1) := gdX10_upwards_0.2.2.2.2.2.2.2.2.2.2.2.1
theorem dX10_upwards_18 : decode cX10_upwards 18 = .ok (.ldiv, 1) := gdX10_upwards_0.2.2.2.2.2.2.2.2.2.2.2.2.1
theorem dX10_upwards_19 : decode cX10_upwards 19 = .ok (.lreturn, 1) := gdX10_upwards_0.2.2.2.2.2.2.2.2.2.2.2.2.2
theorem gdX10_noonsUpTo_0 : (decode cX10_noonsUpTo 0 = .ok (.lload_n 0, 1)) ∧ (decode cX10_noonsUpTo 1 = .ok (.ldc2_w 242, 3)) ∧ (decode cX10_noonsUpTo 4 = .ok (.lcmp, 1)) ∧ (decode cX10_noonsUpTo 5 = .ok (.ifCond .ge 7, 3)) ∧ (decode cX10_noonsUpTo 8 = .ok (.lconst 0, 1)) ∧ (decode cX10_noonsUpTo 9 = .ok (.goto 14, 3)) ∧ (decode cX10_noonsUpTo 12 = .ok (.lload_n 0, 1)) ∧ (decode cX10_noonsUpTo 13 = .ok (.ldc2_w 242, 3)) ∧ (decode cX10_noonsUpTo 16 = .ok (.lsub, 1)) ∧ (decode cX10_noonsUpTo 17 = .ok (.ldc2_w 277, 3)) ∧ (decode cX10_noonsUpTo 20 = .ok (.ldiv, 1)) ∧ (decode cX10_noonsUpTo 21 = .ok (.lconst 1, 1)) ∧ (decode cX10_noonsUpTo 22 = .ok (.ladd, 1)) ∧ (decode cX10_noonsUpTo 23 = .ok (.lreturn, 1)) := by decide +kernel
theorem dX10_noonsUpTo_0 : decode cX10_noonsUpTo 0 = .ok (.lload_n 0, 1) := gdX10_noonsUpTo_0.1
theorem dX10_noonsUpTo_1 : decode cX10_noonsUpTo 1 = .ok (.ldc2_w 242, 3) := gdX10_noonsUpTo_0.2.1
theorem dX10_noonsUpTo_4 : decode cX10_noonsUpTo 4 = .ok (.lcmp, 1) := gdX10_noonsUpTo_0.2.2.1
theorem dX10_noonsUpTo_5 : decode cX10_noonsUpTo 5 = .ok (.ifCond .ge 7, 3) := gdX10_noonsUpTo_0.2.2.2.1
theorem dX10_noonsUpTo_8 : decode cX10_noonsUpTo 8 = .ok (.lconst 0, 1) := gdX10_noonsUpTo_0.2.2.2.2.1
theorem dX10_noonsUpTo_9 : decode cX10_noonsUpTo 9 = .ok (.goto 14, 3) := gdX10_noonsUpTo_0.2.2.2.2.2.1
theorem dX10_noonsUpTo_12 : decode cX10_noonsUpTo 12 = .ok (.lload_n 0, 1) := gdX10_noonsUpTo_0.2.2.2.2.2.2.1
theorem dX10_noonsUpTo_13 : decode cX10_noonsUpTo 13 = .ok (.ldc2_w 242, 3) := gdX10_noonsUpTo_0.2.2.2.2.2.2.2.1
theorem dX10_noonsUpTo_16 : decode cX10_noonsUpTo 16 = .ok (.lsub, 1) := gdX10_noonsUpTo_0.2.2.2.2.2.2.2.2.1
theorem dX10_noonsUpTo_17 : decode cX10_noonsUpTo 17 = .ok (.ldc2_w 277, 3) := gdX10_noonsUpTo_0.2.2.2.2.2.2.2.2.2.1
theorem dX10_noonsUpTo_20 : decode cX10_noonsUpTo 20 = .ok (.ldiv, 1) := gdX10_noonsUpTo_0.2.2.2.2.2.2.2.2.2.2.1
theorem dX10_noonsUpTo_21 : decode cX10_noonsUpTo 21 = .ok (.lconst 1, 1) := gdX10_noonsUpTo_0.2.2.2.2.2.2.2.2.2.2.2.1
theorem dX10_noonsUpTo_22 : decode cX10_noonsUpTo 22 = .ok (.ladd, 1) := gdX10_noonsUpTo_0.2.2.2.2.2.2.2.2.2.2.2.2.1
theorem dX10_noonsUpTo_23 : decode cX10_noonsUpTo 23 = .ok (.lreturn, 1) := gdX10_noonsUpTo_0.2.2.2.2.2.2.2.2.2.2.2.2.2
theorem gdX11_init_0 : (decode cX11_init 0 = .ok (.aload_n 0, 1)) ∧ (decode cX11_init 1 = .ok (.invokespecial 1, 3)) ∧ (decode cX11_init 4 = .ok (.aload_n 0, 1)) ∧ (decode cX11_init 5 = .ok (.sipush 400, 3)) ∧ (decode cX11_init 8 = .ok (.newarray .byte, 2)) ∧ (decode cX11_init 10 = .ok (.putfield 7, 3)) ∧ (decode cX11_init 13 = .ok (.aload_n 0, 1)) ∧ (decode cX11_init 14 = .ok (.sipush 2400, 3)) ∧ (decode cX11_init 17 = .ok (.newarray .int, 2)) ∧ (decode cX11_init 19 = .ok (.putfield 13, 3)) ∧ (decode cX11_init 22 = .ok (.aload_n 0, 1)) ∧ (decode cX11_init 23 = .ok (.bipush 7, 2)) ∧ (decode cX11_init 25 = .ok (.newarray .int, 2)) ∧ (decode cX11_init 27 = .ok (.putfield 17, 3)) ∧ (decode cX11_init 30 = .ok (.aload_n 0, 1)) ∧ (decode cX11_init 31 = .ok (.sipush 216, 3)) := by decide +kernel
theorem dX11_init_0 : decode cX11_init 0 = .ok (.aload_n 0, 1) := gdX11_init_0.1
theorem dX11_init_1 : decode cX11_init 1 = .ok (.invokespecial 1, 3) := gdX11_init_0.2.1
theorem dX11_init_4 : decode cX11_init 4 = .ok (.aload_n 0, 1) := gdX11_init_0.2.2.1
theorem dX11_init_5 : decode cX11_init 5 = .ok (.sipush 400, 3) := gdX11_init_0.2.2.2.1
theorem dX11_init_8 : decode cX11_init 8 = .ok (.newarray .byte, 2) := gdX11_init_0.2.2.2.2.1
theorem dX11_init_10 : decode cX11_init 10 = .ok (.putfield 7, 3) := gdX11_init_0.2.2.2.2.2.1
theorem dX11_init_13 : decode cX11_init 13 = .ok (.aload_n 0, 1) := gdX11_init_0.2.2.2.2.2.2.1
theorem dX11_init_14 : decode cX11_init 14 = .ok (.sipush 2400, 3) := gdX11_init_0.2.2.2.2.2.2.2.1
theorem dX11_init_17 : decode cX11_init 17 = .ok (.newarray .int, 2) := gdX11_init_0.2.2.2.2.2.2.2.2.1
theorem dX11_init_19 : decode cX11_init 19 = .ok (.putfield 13, 3) := gdX11_init_0.2.2.2.2.2.2.2.2.2.1
theorem dX11_init_22 : decode cX11_init 22 = .ok (.aload_n 0, 1) := gdX11_init_0.2.2.2.2.2.2.2.2.2.2.1
theorem dX11_init_23 : decode cX11_init 23 = .ok (.bipush 7, 2) := gdX11_init_0.2.2.2.2.2.2.2.2.2.2.2.1
theorem dX11_init_25 : decode cX11_init 25 = .ok (.newarray .int, 2) := gdX11_init_0.2.2.2.2.2.2.2.2.2.2.2.2.1
theorem dX11_init_27 : decode cX11_init 27 = .ok (.putfield 17, 3) := gdX11_init_0.2.2.2.2.2.2.2.2.2.2.2.2.2.1
theorem dX11_init_30 : decode cX11_init 30 = .ok (.aload_n 0, 1) := gdX11_init_0.2.2.2.2.2.2.2.2.2.2.2.2.2.2.1
theorem dX11_init_31 : decode cX11_init 31 = .ok (.sipush 216, 3) := gdX11_init_0.2.2.2.2.2.2.2.2.2.2.2.2.2.2.2
theorem gdX11_init_34 : (decode cX11_init 34 = .ok (.newarray .int, 2)) ∧ (decode cX11_init 36 = .ok (.putfield 20, 3)) ∧ (decode cX11_init 39 = .ok (.aload_n 0, 1)) ∧ (decode cX11_init 40 = .ok (.bipush 6, 2)) ∧ (decode cX11_init 42 = .ok (.newarray .int, 2)) ∧ (decode cX11_init 44 = .ok (.putfield 23, 3)) ∧ (decode cX11_init 47 = .ok (.aload_n 0, 1)) ∧ (decode cX11_init 48 = .ok (.bipush 20, 2)) ∧ (decode cX11_init 50 = .ok (.newarray .int, 2)) ∧ (decode cX11_init 52 = .ok (.putfield 26, 3)) ∧ (decode cX11_init 55 = .ok (.aload_n 0, 1)) ∧ (decode cX11_init 56 = .ok (.bipush 60, 2)) ∧ (decode cX11_init 58 = .ok (.newarray .int, 2)) ∧ (decode cX11_init 60 = .ok (.putfield 29, 3)) ∧ (decode cX11_init 63 = .ok (.aload_n 0, 1)) ∧ (decode cX11_init 64 = .ok (.bipush 8, 2)) := by decide +kernel
theorem dX11_init_34 : decode cX11_init 34 = .ok (.newarray .int, 2) := gdX11_init_34.1
theorem dX11_init_36 : decode cX11_init 36 = .ok (.putfield 20, 3) := gdX11_init_34.2.1
theorem dX11_init_39 : decode cX11_init 39 = .ok (.aload_n 0, 1) := gdX11_init_34.2.2.1
theorem dX11_init_40 : decode cX11_init 40 = .ok (.bipush 6, 2) := gdX11_init_34.2.2.2.1
theorem dX11_init_42 : decode cX11_init 42 = .ok (.newarray .int, 2) := gdX11_init_34.2.2.2.2.1
theorem dX11_init_44 : decode cX11_init 44 = .ok (.putfield 23, 3) := gdX11_init_34.2.2.2.2.2.1
theorem dX11_init_47 : decode cX11_init 47 = .ok (.aload_n 0, 1) := gdX11_init_34.2.2.2.2.2.2.1
theorem dX11_init_48 : decode cX11_init 48 = .ok (.bipush 20, 2) := gdX11_init_34.2.2.2.2.2.2.2.1
theorem dX11_init_50 : decode cX11_init 50 = .ok (.newarray .int, 2) := gdX11_init_34.2.2.2.2.2.2.2.2.1
theorem dX11_init_52 : decode cX11_init 52 = .ok (.putfield 26, 3) := gdX11_init_34.2.2.2.2.2.2.2.2.2.1
theorem dX11_init_55 : decode cX11_init 55 = .ok (.aload_n 0, 1) := gdX11_init_34.2.2.2.2.2.2.2.2.2.2.1
theorem dX11_init_56 : decode cX11_init 56 = .ok (.bipush 60, 2) := gdX11_init_34.2.2.2.2.2.2.2.2.2.2.2.1
theorem dX11_init_58 : decode cX11_init 58 = .ok (.newarray .int, 2) := gdX11_init_34.2.2.2.2.2.2.2.2.2.2.2.2.1
theorem dX11_init_60 : decode cX11_init 60 = .ok (.putfield 29, 3) := gdX11_init_34.2.2.2.2.2.2.2.2.2.2.2.2.2.1
theorem dX11_init_63 : decode cX11_init 63 = .ok (.aload_n 0, 1) := gdX11_init_34.2.2.2.2.2.2.2.2.2.2.2.2.2.2.1
theorem dX11_init_64 : decode cX11_init 64 = .ok (.bipush 8, 2) := gdX11_init_34.2.2.2.2.2.2.2.2.2.2.2.2.2.2.2
theorem gdX11_init_66 : (decode cX11_init 66 = .ok (.newarray .int, 2)) ∧ (decode cX11_init 68 = .ok (.putfield 32, 3)) ∧ (decode cX11_init 71 = .ok (.aload_n 0, 1)) ∧ (decode cX11_init 72 = .ok (.sipush 400, 3)) ∧ (decode cX11_init 75 = .ok (.newarray .int, 2)) ∧ (decode cX11_init 77 = .ok (.putfield 35, 3)) ∧ (decode cX11_init 80 = .ok (.aload_n 0, 1)) ∧ (decode cX11_init 81 = .ok (.bipush 64, 2)) ∧ (decode cX11_init 83 = .ok (.newarray .long, 2)) ∧ (decode cX11_init 85 = .ok (.putfield 38, 3)) ∧ (decode cX11_init 88 = .ok (.aload_n 0, 1)) ∧ (decode cX11_init 89 = .ok (.bipush 8, 2)) ∧ (decode cX11_init 91 = .ok (.newarray .long, 2)) ∧ (decode cX11_init 93 = .ok (.putfield 42, 3)) ∧ (decode cX11_init 96 = .ok (.aload_n 0, 1)) ∧ (decode cX11_init 97 = .ok (.sipush 158, 3)) := by decide +kernel
theorem dX11_init_66 : decode cX11_init 66 = .ok (.newarray .int, 2) := gdX11_init_66.1
theorem dX11_init_68 : decode cX11_init 68 = .ok (.putfield 32, 3) := gdX11_init_66.2.1
theorem dX11_init_71 : decode cX11_init 71 = .ok (.aload_n 0, 1) := gdX11_init_66.2.2.1
theorem dX11_init_72 : decode cX11_init 72 = .ok (.sipush 400, 3) := gdX11_init_66.2.2.2.1
theorem dX11_init_75 : decode cX11_init 75 = .ok (.newarray .int, 2) := gdX11_init_66.2.2.2.2.1
theorem dX11_init_77 : decode cX11_init 77 = .ok (.putfield 35, 3) := gdX11_init_66.2.2.2.2.2.1
theorem dX11_init_80 : decode cX11_init 80 = .ok (.aload_n 0, 1) := gdX11_init_66.2.2.2.2.2.2.1
theorem dX11_init_81 : decode cX11_init 81 = .ok (.bipush 64, 2) := gdX11_init_66.2.2.2.2.2.2.2.1
theorem dX11_init_83 : decode cX11_init 83 = .ok (.newarray .long, 2) := gdX11_init_66.2.2.2.2.2.2.2.2.1
theorem dX11_init_85 : decode cX11_init 85 = .ok (.putfield 38, 3) := gdX11_init_66.2.2.2.2.2.2.2.2.2.1
theorem dX11_init_88 : decode cX11_init 88 = .ok (.aload_n 0, 1) := gdX11_init_66.2.2.2.2.2.2.2.2.2.2.1
theorem dX11_init_89 : decode cX11_init 89 = .ok (.bipush 8, 2) := gdX11_init_66.2.2.2.2.2.2.2.2.2.2.2.1
theorem dX11_init_91 : decode cX11_init 91 = .ok (.newarray .long, 2) := gdX11_init_66.2.2.2.2.2.2.2.2.2.2.2.2.1
theorem dX11_init_93 : decode cX11_init 93 = .ok (.putfield 42, 3) := gdX11_init_66.2.2.2.2.2.2.2.2.2.2.2.2.2.1
theorem dX11_init_96 : decode cX11_init 96 = .ok (.aload_n 0, 1) := gdX11_init_66.2.2.2.2.2.2.2.2.2.2.2.2.2.2.1
theorem dX11_init_97 : decode cX11_init 97 = .ok (.sipush 158, 3) := gdX11_init_66.2.2.2.2.2.2.2.2.2.2.2.2.2.2.2
theorem gdX11_init_100 : (decode cX11_init 100 = .ok (.newarray .int, 2)) ∧ (decode cX11_init 102 = .ok (.putfield 45, 3)) ∧ (decode cX11_init 105 = .ok (.aload_n 0, 1)) ∧ (decode cX11_init 106 = .ok (.bipush 8, 2)) ∧ (decode cX11_init 108 = .ok (.newarray .long, 2)) ∧ (decode cX11_init 110 = .ok (.putfield 48, 3)) ∧ (decode cX11_init 113 = .ok (.aload_n 0, 1)) ∧ (decode cX11_init 114 = .ok (.sipush 158, 3)) ∧ (decode cX11_init 117 = .ok (.newarray .int, 2)) ∧ (decode cX11_init 119 = .ok (.putfield 51, 3)) ∧ (decode cX11_init 122 = .ok (.aload_n 0, 1)) ∧ (decode cX11_init 123 = .ok (.bipush 8, 2)) ∧ (decode cX11_init 125 = .ok (.newarray .long, 2)) ∧ (decode cX11_init 127 = .ok (.putfield 54, 3)) ∧ (decode cX11_init 130 = .ok (.aload_n 0, 1)) ∧ (decode cX11_init 131 = .ok (.bipush 100, 2)) := by decide +kernel
theorem dX11_init_100 : decode cX11_init 100 = .ok (.newarray .int, 2) := gdX11_init_100.1
theorem dX11_init_102 : decode cX11_init 102 = .ok (.putfield 45, 3) := gdX11_init_100.2.1
theorem dX11_init_105 : decode cX11_init 105 = .ok (.aload_n 0, 1) := gdX11_init_100.2.2.1
theorem dX11_init_106 : decode cX11_init 106 = .ok (.bipush 8, 2) := gdX11_init_100.2.2.2.1
theorem dX11_init_108 : decode cX11_init 108 = .ok (.newarray .long, 2) := gdX11_init_100.2.2.2.2.1
theorem dX11_init_110 : decode cX11_init 110 = .ok (.putfield 48, 3) := gdX11_init_100.2.2.2.2.2.1
theorem dX11_init_113 : decode cX11_init 113 = .ok (.aload_n 0, 1) := gdX11_init_100.2.2.2.2.2.2.1
theorem dX11_init_114 : decode cX11_init 114 = .ok (.sipush 158, 3) := gdX11_init_100.2.2.2.2.2.2.2.1
theorem dX11_init_117 : decode cX11_init 117 = .ok (.newarray .int, 2) := gdX11_init_100.2.2.2.2.2.2.2.2.1
theorem dX11_init_119 : decode cX11_init 119 = .ok (.putfield 51, 3) := gdX11_init_100.2.2.2.2.2.2.2.2.2.1
theorem dX11_init_122 : decode cX11_init 122 = .ok (.aload_n 0, 1) := gdX11_init_100.2.2.2.2.2.2.2.2.2.2.1
theorem dX11_init_123 : decode cX11_init 123 = .ok (.bipush 8, 2) := gdX11_init_100.2.2.2.2.2.2.2.2.2.2.2.1
theorem dX11_init_125 : decode cX11_init 125 = .ok (.newarray .long, 2) := gdX11_init_100.2.2.2.2.2.2.2.2.2.2.2.2.1
theorem dX11_init_127 : decode cX11_init 127 = .ok (.putfield 54, 3) := gdX11_init_100.2.2.2.2.2.2.2.2.2.2.2.2.2.1
theorem dX11_init_130 : decode cX11_init 130 = .ok (.aload_n 0, 1) := gdX11_init_100.2.2.2.2.2.2.2.2.2.2.2.2.2.2.1
theorem dX11_init_131 : decode cX11_init 131 = .ok (.bipush 100, 2) := gdX11_init_100.2.2.2.2.2.2.2.2.2.2.2.2.2.2.2
theorem gdX11_init_133 : (decode cX11_init 133 = .ok (.newarray .long, 2)) ∧ (decode cX11_init 135 = .ok (.putfield 57, 3)) ∧ (decode cX11_init 138 = .ok (.aload_n 0, 1)) ∧ (decode cX11_init 139 = .ok (.sipush 1210, 3)) ∧ (decode cX11_init 142 = .ok (.newarray .long, 2)) ∧ (decode cX11_init 144 = .ok (.putfield 60, 3)) ∧ (decode cX11_init 147 = .ok (.aload_n 0, 1)) ∧ (decode cX11_init 148 = .ok (.bipush 10, 2)) ∧ (decode cX11_init 150 = .ok (.newarray .boolean, 2)) ∧ (decode cX11_init 152 = .ok (.putfield 63, 3)) ∧ (decode cX11_init 155 = .ok (.aload_n 0, 1)) ∧ (decode cX11_init 156 = .ok (.sipush 4001, 3)) ∧ (decode cX11_init 159 = .ok (.newarray .int, 2)) ∧ (decode cX11_init 161 = .ok (.putfield 67, 3)) ∧ (decode cX11_init 164 = .ok (.aload_n 0, 1)) ∧ (decode cX11_init 165 = .ok (.sipush 4001, 3)) := by decide +kernel
theorem dX11_init_133 : decode cX11_init 133 = .ok (.newarray .long, 2) := gdX11_init_133.1
theorem dX11_init_135 : decode cX11_init 135 = .ok (.putfield 57, 3) := gdX11_init_133.2.1
theorem dX11_init_138 : decode cX11_init 138 = .ok (.aload_n 0, 1) := gdX11_init_133.2.2.1
theorem dX11_init_139 : decode cX11_init 139 = .ok (.sipush 1210, 3) := gdX11_init_133.2.2.2.1
theorem dX11_init_142 : decode cX11_init 142 = .ok (.newarray .long, 2) := gdX11_init_133.2.2.2.2.1
theorem dX11_init_144 : decode cX11_init 144 = .ok (.putfield 60, 3) := gdX11_init_133.2.2.2.2.2.1
theorem dX11_init_147 : decode cX11_init 147 = .ok (.aload_n 0, 1) := gdX11_init_133.2.2.2.2.2.2.1
theorem dX11_init_148 : decode cX11_init 148 = .ok (.bipush 10, 2) := gdX11_init_133.2.2.2.2.2.2.2.1
theorem dX11_init_150 : decode cX11_init 150 = .ok (.newarray .boolean, 2) := gdX11_init_133.2.2.2.2.2.2.2.2.1
theorem dX11_init_152 : decode cX11_init 152 = .ok (.putfield 63, 3) := gdX11_init_133.2.2.2.2.2.2.2.2.2.1
theorem dX11_init_155 : decode cX11_init 155 = .ok (.aload_n 0, 1) := gdX11_init_133.2.2.2.2.2.2.2.2.2.2.1
theorem dX11_init_156 : decode cX11_init 156 = .ok (.sipush 4001, 3) := gdX11_init_133.2.2.2.2.2.2.2.2.2.2.2.1
theorem dX11_init_159 : decode cX11_init 159 = .ok (.newarray .int, 2) := gdX11_init_133.2.2.2.2.2.2.2.2.2.2.2.2.1
theorem dX11_init_161 : decode cX11_init 161 = .ok (.putfield 67, 3) := gdX11_init_133.2.2.2.2.2.2.2.2.2.2.2.2.2.1
theorem dX11_init_164 : decode cX11_init 164 = .ok (.aload_n 0, 1) := gdX11_init_133.2.2.2.2.2.2.2.2.2.2.2.2.2.2.1
theorem dX11_init_165 : decode cX11_init 165 = .ok (.sipush 4001, 3) := gdX11_init_133.2.2.2.2.2.2.2.2.2.2.2.2.2.2.2
theorem gdX11_init_168 : (decode cX11_init 168 = .ok (.newarray .int, 2)) ∧ (decode cX11_init 170 = .ok (.putfield 70, 3)) ∧ (decode cX11_init 173 = .ok (.aload_n 0, 1)) ∧ (decode cX11_init 174 = .ok (.sipush 4001, 3)) ∧ (decode cX11_init 177 = .ok (.newarray .long, 2)) ∧ (decode cX11_init 179 = .ok (.putfield 73, 3)) ∧ (decode cX11_init 182 = .ok (.aload_n 0, 1)) ∧ (decode cX11_init 183 = .ok (.sipush 4001, 3)) ∧ (decode cX11_init 186 = .ok (.newarray .int, 2)) ∧ (decode cX11_init 188 = .ok (.putfield 76, 3)) ∧ (decode cX11_init 191 = .ok (.aload_n 0, 1)) ∧ (decode cX11_init 192 = .ok (.sipush 632, 3)) ∧ (decode cX11_init 195 = .ok (.newarray .int, 2)) ∧ (decode cX11_init 197 = .ok (.putfield 79, 3)) ∧ (decode cX11_init 200 = .ok (.aload_n 0, 1)) ∧ (decode cX11_init 201 = .ok (.bipush 32, 2)) := by decide +kernel
theorem dX11_init_168 : decode cX11_init 168 = .ok (.newarray .int, 2) := gdX11_init_168.1
theorem dX11_init_170 : decode cX11_init 170 = .ok (.putfield 70, 3) := gdX11_init_168.2.1
theorem dX11_init_173 : decode cX11_init 173 = .ok (.aload_n 0, 1) := gdX11_init_168.2.2.1
theorem dX11_init_174 : decode cX11_init 174 = .ok (.sipush 4001, 3) := gdX11_init_168.2.2.2.1
theorem dX11_init_177 : decode cX11_init 177 = .ok (.newarray .long, 2) := gdX11_init_168.2.2.2.2.1
theorem dX11_init_179 : decode cX11_init 179 = .ok (.putfield 73, 3) := gdX11_init_168.2.2.2.2.2.1
theorem dX11_init_182 : decode cX11_init 182 = .ok (.aload_n 0, 1) := gdX11_init_168.2.2.2.2.2.2.1
theorem dX11_init_183 : decode cX11_init 183 = .ok (.sipush 4001, 3) := gdX11_init_168.2.2.2.2.2.2.2.1
theorem dX11_init_186 : decode cX11_init 186 = .ok (.newarray .int, 2) := gdX11_init_168.2.2.2.2.2.2.2.2.1
theorem dX11_init_188 : decode cX11_init 188 = .ok (.putfield 76, 3) := gdX11_init_168.2.2.2.2.2.2.2.2.2.1
theorem dX11_init_191 : decode cX11_init 191 = .ok (.aload_n 0, 1) := gdX11_init_168.2.2.2.2.2.2.2.2.2.2.1
theorem dX11_init_192 : decode cX11_init 192 = .ok (.sipush 632, 3) := gdX11_init_168.2.2.2.2.2.2.2.2.2.2.2.1
theorem dX11_init_195 : decode cX11_init 195 = .ok (.newarray .int, 2) := gdX11_init_168.2.2.2.2.2.2.2.2.2.2.2.2.1
theorem dX11_init_197 : decode cX11_init 197 = .ok (.putfield 79, 3) := gdX11_init_168.2.2.2.2.2.2.2.2.2.2.2.2.2.1
theorem dX11_init_200 : decode cX11_init 200 = .ok (.aload_n 0, 1) := gdX11_init_168.2.2.2.2.2.2.2.2.2.2.2.2.2.2.1
theorem dX11_init_201 : decode cX11_init 201 = .ok (.bipush 32, 2) := gdX11_init_168.2.2.2.2.2.2.2.2.2.2.2.2.2.2.2
theorem gdX11_init_203 : (decode cX11_init 203 = .ok (.newarray .long, 2)) ∧ (decode cX11_init 205 = .ok (.putfield 82, 3)) ∧ (decode cX11_init 208 = .ok (.aload_n 0, 1)) ∧ (decode cX11_init 209 = .ok (.iconst 4, 1)) ∧ (decode cX11_init 210 = .ok (.newarray .boolean, 2)) ∧ (decode cX11_init 212 = .ok (.putfield 85, 3)) ∧ (decode cX11_init 215 = .ok (.return_, 1)) := by decide +kernel
theorem dX11_init_203 : decode cX11_init 203 = .ok (.newarray .long, 2) := gdX11_init_203.1
theorem dX11_init_205 : decode cX11_init 205 = .ok (.putfield 82, 3) := gdX11_init_203.2.1
theorem dX11_init_208 : decode cX11_init 208 = .ok (.aload_n 0, 1) := gdX11_init_203.2.2.1
theorem dX11_init_209 : decode cX11_init 209 = .ok (.iconst 4, 1) := gdX11_init_203.2.2.2.1
theorem dX11_init_210 : decode cX11_init 210 = .ok (.newarray .boolean, 2) := gdX11_init_203.2.2.2.2.1
theorem dX11_init_212 : decode cX11_init 212 = .ok (.putfield 85, 3) := gdX11_init_203.2.2.2.2.2.1
theorem dX11_init_215 : decode cX11_init 215 = .ok (.return_, 1) := gdX11_init_203.2.2.2.2.2.2
theorem gdX11_in_0 : (decode cX11_in 0 = .ok (.lload_n 0, 1)) ∧ (decode cX11_in 1 = .ok (.lload_n 2, 1)) ∧ (decode cX11_in 2 = .ok (.lcmp, 1)) ∧ (decode cX11_in 3 = .ok (.ifCond .lt 14, 3)) ∧ (decode cX11_in 6 = .ok (.lload_n 0, 1)) ∧ (decode cX11_in 7 = .ok (.lload 4, 2)) ∧ (decode cX11_in 9 = .ok (.lcmp, 1)) ∧ (decode cX11_in 10 = .ok (.ifCond .gt 7, 3)) ∧ (decode cX11_in 13 = .ok (.iconst 1, 1)) ∧ (decode cX11_in 14 = .ok (.goto 4, 3)) ∧ (decode cX11_in 17 = .ok (.iconst 0, 1)) ∧ (decode cX11_in 18 = .ok (.ireturn, 1)) := by decide +kernel
theorem dX11_in_0 : decode cX11_in 0 = .ok (.lload_n 0, 1) := gdX11_in_0.1
theorem dX11_in_1 : decode cX11_in 1 = .ok (.lload_n 2, 1) := gdX11_in_0.2.1
theorem dX11_in_2 : decode cX11_in 2 = .ok (.lcmp, 1) := gdX11_in_0.2.2.1
theorem dX11_in_3 : decode cX11_in 3 = .ok (.ifCond .lt 14, 3) := gdX11_in_0.2.2.2.1
theorem dX11_in_6 : decode cX11_in 6 = .ok (.lload_n 0, 1) := gdX11_in_0.2.2.2.2.1
theorem dX11_in_7 : decode cX11_in 7 = .ok (.lload 4, 2) := gdX11_in_0.2.2.2.2.2.1
theorem dX11_in_9 : decode cX11_in 9 = .ok (.lcmp, 1) := gdX11_in_0.2.2.2.2.2.2.1
theorem dX11_in_10 : decode cX11_in 10 = .ok (.ifCond .gt 7, 3) := gdX11_in_0.2.2.2.2.2.2.2.1
theorem dX11_in_13 : decode cX11_in 13 = .ok (.iconst 1, 1) := gdX11_in_0.2.2.2.2.2.2.2.2.1
theorem dX11_in_14 : decode cX11_in 14 = .ok (.goto 4, 3) := gdX11_in_0.2.2.2.2.2.2.2.2.2.1
theorem dX11_in_17 : decode cX11_in 17 = .ok (.iconst 0, 1) := gdX11_in_0.2.2.2.2.2.2.2.2.2.2.1
theorem dX11_in_18 : decode cX11_in 18 = .ok (.ireturn, 1) := gdX11_in_0.2.2.2.2.2.2.2.2.2.2.2
theorem gdX11_divisor_0 : (decode cX11_divisor 0 = .ok (.lload_n 0, 1)) ∧ (decode cX11_divisor 1 = .ok (.lconst 0, 1)) ∧ (decode cX11_divisor 2 = .ok (.lcmp, 1)) ∧ (decode cX11_divisor 3 = .ok (.ifCond .ge 8, 3)) ∧ (decode cX11_divisor 6 = .ok (.lload_n 0, 1)) ∧ (decode cX11_divisor 7 = .ok (.lneg, 1)) ∧ (decode cX11_divisor 8 = .ok (.goto 4, 3)) ∧ (decode cX11_divisor 11 = .ok (.lload_n 0, 1)) ∧ (decode cX11_divisor 12 = .ok (.lstore 4, 2)) ∧ (decode cX11_divisor 14 = .ok (.lload_n 2, 1)) ∧ (decode cX11_divisor 15 = .ok (.lconst 0, 1)) ∧ (decode cX11_divisor 16 = .ok (.lcmp, 1)) ∧ (decode cX11_divisor 17 = .ok (.ifCond .ge 8, 3)) ∧ (decode cX11_divisor 20 = .ok (.lload_n 2, 1)) ∧ (decode cX11_divisor 21 = .ok (.lneg, 1)) ∧ (decode cX11_divisor 22 = .ok (.goto 4, 3)) := by decide +kernel
theorem dX11_divisor_0 : decode cX11_divisor 0 = .ok (.lload_n 0, 1) := gdX11_divisor_0.1
theorem dX11_divisor_1 : decode cX11_divisor 1 = .ok (.lconst 0, 1) := gdX11_divisor_0.2.1
theorem dX11_divisor_2 : decode cX11_divisor 2 = .ok (.lcmp, 1) := gdX11_divisor_0.2.2.1
theorem dX11_divisor_3 : decode cX11_divisor 3 = .ok (.ifCond .ge 8, 3) := gdX11_divisor_0.2.2.2.1
theorem dX11_divisor_6 : decode cX11_divisor 6 = .ok (.lload_n 0, 1) := gdX11_divisor_0.2.2.2.2.1
theorem dX11_divisor_7 : decode cX11_divisor 7 = .ok (.lneg, 1) := gdX11_divisor_0.2.2.2.2.2.1
theorem dX11_divisor_8 : decode cX11_divisor 8 = .ok (.goto 4, 3) := gdX11_divisor_0.2.2.2.2.2.2.1
theorem dX11_divisor_11 : decode cX11_divisor 11 = .ok (.lload_n 0, 1) := gdX11_divisor_0.2.2.2.2.2.2.2.1
theorem dX11_divisor_12 : decode cX11_divisor 12 = .ok (.lstore 4, 2) := gdX11_divisor_0.2.2.2.2.2.2.2.2.1
theorem dX11_divisor_14 : decode cX11_divisor 14 = .ok (.lload_n 2, 1) := gdX11_divisor_0.2.2.2.2.2.2.2.2.2.1
theorem dX11_divisor_15 : decode cX11_divisor 15 = .ok (.lconst 0, 1) := gdX11_divisor_0.2.2.2.2.2.2.2.2.2.2.1
theorem dX11_divisor_16 : decode cX11_divisor 16 = .ok (.lcmp, 1) := gdX11_divisor_0.2.2.2.2.2.2.2.2.2.2.2.1
theorem dX11_divisor_17 : decode cX11_divisor 17 = .ok (.ifCond .ge 8, 3) := gdX11_divisor_0.2.2.2.2.2.2.2.2.2.2.2.2.1
theorem dX11_divisor_20 : decode cX11_divisor 20 = .ok (.lload_n 2, 1) := gdX11_divisor_0.2.2.2.2.2.2.2.2.2.2.2.2.2.1
theorem dX11_divisor_21 : decode cX11_divisor 21 = .ok (.lneg, 1) := gdX11_divisor_0.2.2.2.2.2.2.2.2.2.2.2.2.2.2.1
theorem dX11_divisor_22 : decode cX11_divisor 22 = .ok (.goto 4, 3) := gdX11_divisor_0.2.2.2.2.2.2.2.2.2.2.2.2.2.2.2
theorem gdX11_divisor_25 : (decode cX11_divisor 25 = .ok (.lload_n 2, 1)) ∧ (decode cX11_divisor 26 = .ok (.lstore 6, 2)) ∧ (decode cX11_divisor 28 = .ok (.lload 6, 2)) ∧ (decode cX11_divisor 30 = .ok (.lconst 0, 1)) ∧ (decode cX11_divisor 31 = .ok (.lcmp, 1)) ∧ (decode cX11_divisor 32 = .ok (.ifCond .eq 21, 3)) ∧ (decode cX11_divisor 35 = .ok (.lload 4, 2)) ∧ (decode cX11_divisor 37 = .ok (.lload 6, 2)) ∧ (decode cX11_divisor 39 = .ok (.lrem, 1)) ∧ (decode cX11_divisor 40 = .ok (.lstore 8, 2)) ∧ (decode cX11_divisor 42 = .ok (.lload 6, 2)) ∧ (decode cX11_divisor 44 = .ok (.lstore 4, 2)) ∧ (decode cX11_divisor 46 = .ok (.lload 8, 2)) ∧ (decode cX11_divisor 48 = .ok (.lstore 6, 2)) ∧ (decode cX11_divisor 50 = .ok (.goto (-22), 3)) ∧ (decode cX11_divisor 53 = .ok (.lload 4, 2)) := by decide +kernel
theorem dX11_divisor_25 : decode cX11_divisor 25 = .ok (.lload_n 2, 1) := gdX11_divisor_25.1
theorem dX11_divisor_26 : decode cX11_divisor 26 = .ok (.lstore 6, 2) := gdX11_divisor_25.2.1
theorem dX11_divisor_28 : decode cX11_divisor 28 = .ok (.lload 6, 2) := gdX11_divisor_25.2.2.1
theorem dX11_divisor_30 : decode cX11_divisor 30 = .ok (.lconst 0, 1) := gdX11_divisor_25.2.2.2.1
theorem dX11_divisor_31 : decode cX11_divisor 31 = .ok (.lcmp, 1) := gdX11_divisor_25.2.2.2.2.1
theorem dX11_divisor_32 : decode cX11_divisor 32 = .ok (.ifCond .eq 21, 3) := gdX11_divisor_25.2.2.2.2.2.1
theorem dX11_divisor_35 : decode cX11_divisor 35 = .ok (.lload 4, 2) := gdX11_divisor_25.2.2.2.2.2.2.1
theorem dX11_divisor_37 : decode cX11_divisor 37 = .ok (.lload 6, 2) := gdX11_divisor_25.2.2.2.2.2.2.2.1
theorem dX11_divisor_39 : decode cX11_divisor 39 = .ok (.lrem, 1) := gdX11_divisor_25.2.2.2.2.2.2.2.2.1
theorem dX11_divisor_40 : decode cX11_divisor 40 = .ok (.lstore 8, 2) := gdX11_divisor_25.2.2.2.2.2.2.2.2.2.1
theorem dX11_divisor_42 : decode cX11_divisor 42 = .ok (.lload 6, 2) := gdX11_divisor_25.2.2.2.2.2.2.2.2.2.2.1
theorem dX11_divisor_44 : decode cX11_divisor 44 = .ok (.lstore 4, 2) := gdX11_divisor_25.2.2.2.2.2.2.2.2.2.2.2.1
theorem dX11_divisor_46 : decode cX11_divisor 46 = .ok (.lload 8, 2) := gdX11_divisor_25.2.2.2.2.2.2.2.2.2.2.2.2.1
theorem dX11_divisor_48 : decode cX11_divisor 48 = .ok (.lstore 6, 2) := gdX11_divisor_25.2.2.2.2.2.2.2.2.2.2.2.2.2.1
theorem dX11_divisor_50 : decode cX11_divisor 50 = .ok (.goto (-22), 3) := gdX11_divisor_25.2.2.2.2.2.2.2.2.2.2.2.2.2.2.1
theorem dX11_divisor_53 : decode cX11_divisor 53 = .ok (.lload 4, 2) := gdX11_divisor_25.2.2.2.2.2.2.2.2.2.2.2.2.2.2.2
theorem dX11_divisor_55 : decode cX11_divisor 55 = .ok (.lreturn, 1) := by decide +kernel
theorem gdX11_lowest_0 : (decode cX11_lowest 0 = .ok (.lload_n 0, 1)) ∧ (decode cX11_lowest 1 = .ok (.lload_n 2, 1)) ∧ (decode cX11_lowest 2 = .ok (.invokestatic 88, 3)) ∧ (decode cX11_lowest 5 = .ok (.lstore 5, 2)) ∧ (decode cX11_lowest 7 = .ok (.iload 4, 2)) ∧ (decode cX11_lowest 9 = .ok (.ifCond .ne 10, 3)) ∧ (decode cX11_lowest 12 = .ok (.lload_n 0, 1)) ∧ (decode cX11_lowest 13 = .ok (.lload 5, 2)) ∧ (decode cX11_lowest 15 = .ok (.ldiv, 1)) ∧ (decode cX11_lowest 16 = .ok (.goto 7, 3)) ∧ (decode cX11_lowest 19 = .ok (.lload_n 2, 1)) ∧ (decode cX11_lowest 20 = .ok (.lload 5, 2)) ∧ (decode cX11_lowest 22 = .ok (.ldiv, 1)) ∧ (decode cX11_lowest 23 = .ok (.lreturn, 1)) := by decide +kernel
theorem dX11_lowest_0 : decode cX11_lowest 0 = .ok (.lload_n 0, 1) := gdX11_lowest_0.1
theorem dX11_lowest_1 : decode cX11_lowest 1 = .ok (.lload_n 2, 1) := gdX11_lowest_0.2.1
theorem dX11_lowest_2 : decode cX11_lowest 2 = .ok (.invokestatic 88, 3) := gdX11_lowest_0.2.2.1
theorem dX11_lowest_5 : decode cX11_lowest 5 = .ok (.lstore 5, 2) := gdX11_lowest_0.2.2.2.1
theorem dX11_lowest_7 : decode cX11_lowest 7 = .ok (.iload 4, 2) := gdX11_lowest_0.2.2.2.2.1
theorem dX11_lowest_9 : decode cX11_lowest 9 = .ok (.ifCond .ne 10, 3) := gdX11_lowest_0.2.2.2.2.2.1
theorem dX11_lowest_12 : decode cX11_lowest 12 = .ok (.lload_n 0, 1) := gdX11_lowest_0.2.2.2.2.2.2.1
theorem dX11_lowest_13 : decode cX11_lowest 13 = .ok (.lload 5, 2) := gdX11_lowest_0.2.2.2.2.2.2.2.1
theorem dX11_lowest_15 : decode cX11_lowest 15 = .ok (.ldiv, 1) := gdX11_lowest_0.2.2.2.2.2.2.2.2.1
theorem dX11_lowest_16 : decode cX11_lowest 16 = .ok (.goto 7, 3) := gdX11_lowest_0.2.2.2.2.2.2.2.2.2.1
theorem dX11_lowest_19 : decode cX11_lowest 19 = .ok (.lload_n 2, 1) := gdX11_lowest_0.2.2.2.2.2.2.2.2.2.2.1
theorem dX11_lowest_20 : decode cX11_lowest 20 = .ok (.lload 5, 2) := gdX11_lowest_0.2.2.2.2.2.2.2.2.2.2.2.1
theorem dX11_lowest_22 : decode cX11_lowest 22 = .ok (.ldiv, 1) := gdX11_lowest_0.2.2.2.2.2.2.2.2.2.2.2.2.1
theorem dX11_lowest_23 : decode cX11_lowest 23 = .ok (.lreturn, 1) := gdX11_lowest_0.2.2.2.2.2.2.2.2.2.2.2.2.2
theorem gdX11_four_0 : (decode cX11_four 0 = .ok (.bipush 24, 2)) ∧ (decode cX11_four 2 = .ok (.istore_n 2, 1)) ∧ (decode cX11_four 3 = .ok (.iload_n 2, 1)) ∧ (decode cX11_four 4 = .ok (.ifCond .lt 32, 3)) ∧ (decode cX11_four 7 = .ok (.aload_n 0, 1)) ∧ (decode cX11_four 8 = .ok (.getfield 7, 3)) ∧ (decode cX11_four 11 = .ok (.aload_n 0, 1)) ∧ (decode cX11_four 12 = .ok (.getfield 92, 3)) ∧ (decode cX11_four 15 = .ok (.iload_n 1, 1)) ∧ (decode cX11_four 16 = .ok (.iload_n 2, 1)) ∧ (decode cX11_four 17 = .ok (.ishr, 1)) ∧ (decode cX11_four 18 = .ok (.i2b, 1)) ∧ (decode cX11_four 19 = .ok (.bastore, 1)) ∧ (decode cX11_four 20 = .ok (.aload_n 0, 1)) ∧ (decode cX11_four 21 = .ok (.dup, 1)) ∧ (decode cX11_four 22 = .ok (.getfield 92, 3)) := by decide +kernel
theorem dX11_four_0 : decode cX11_four 0 = .ok (.bipush 24, 2) := gdX11_four_0.1
theorem dX11_four_2 : decode cX11_four 2 = .ok (.istore_n 2, 1) := gdX11_four_0.2.1
theorem dX11_four_3 : decode cX11_four 3 = .ok (.iload_n 2, 1) := gdX11_four_0.2.2.1
theorem dX11_four_4 : decode cX11_four 4 = .ok (.ifCond .lt 32, 3) := gdX11_four_0.2.2.2.1
theorem dX11_four_7 : decode cX11_four 7 = .ok (.aload_n 0, 1) := gdX11_four_0.2.2.2.2.1
theorem dX11_four_8 : decode cX11_four 8 = .ok (.getfield 7, 3) := gdX11_four_0.2.2.2.2.2.1
theorem dX11_four_11 : decode cX11_four 11 = .ok (.aload_n 0, 1) := gdX11_four_0.2.2.2.2.2.2.1
theorem dX11_four_12 : decode cX11_four 12 = .ok (.getfield 92, 3) := gdX11_four_0.2.2.2.2.2.2.2.1
theorem dX11_four_15 : decode cX11_four 15 = .ok (.iload_n 1, 1) := gdX11_four_0.2.2.2.2.2.2.2.2.1
theorem dX11_four_16 : decode cX11_four 16 = .ok (.iload_n 2, 1) := gdX11_four_0.2.2.2.2.2.2.2.2.2.1
theorem dX11_four_17 : decode cX11_four 17 = .ok (.ishr, 1) := gdX11_four_0.2.2.2.2.2.2.2.2.2.2.1
theorem dX11_four_18 : decode cX11_four 18 = .ok (.i2b, 1) := gdX11_four_0.2.2.2.2.2.2.2.2.2.2.2.1
theorem dX11_four_19 : decode cX11_four 19 = .ok (.bastore, 1) := gdX11_four_0.2.2.2.2.2.2.2.2.2.2.2.2.1
theorem dX11_four_20 : decode cX11_four 20 = .ok (.aload_n 0, 1) := gdX11_four_0.2.2.2.2.2.2.2.2.2.2.2.2.2.1
theorem dX11_four_21 : decode cX11_four 21 = .ok (.dup, 1) := gdX11_four_0.2.2.2.2.2.2.2.2.2.2.2.2.2.2.1
theorem dX11_four_22 : decode cX11_four 22 = .ok (.getfield 92, 3) := gdX11_four_0.2.2.2.2.2.2.2.2.2.2.2.2.2.2.2
theorem gdX11_four_25 : (decode cX11_four 25 = .ok (.iconst 1, 1)) ∧ (decode cX11_four 26 = .ok (.iadd, 1)) ∧ (decode cX11_four 27 = .ok (.putfield 92, 3)) ∧ (decode cX11_four 30 = .ok (.iinc 2 (-8), 3)) ∧ (decode cX11_four 33 = .ok (.goto (-30), 3)) ∧ (decode cX11_four 36 = .ok (.return_, 1)) := by decide +kernel
theorem dX11_four_25 : decode cX11_four 25 = .ok (.iconst 1, 1) := gdX11_four_25.1
theorem dX11_four_26 : decode cX11_four 26 = .ok (.iadd, 1) := gdX11_four_25.2.1
theorem dX11_four_27 : decode cX11_four 27 = .ok (.putfield 92, 3) := gdX11_four_25.2.2.1
theorem dX11_four_30 : decode cX11_four 30 = .ok (.iinc 2 (-8), 3) := gdX11_four_25.2.2.2.1
theorem dX11_four_33 : decode cX11_four 33 = .ok (.goto (-30), 3) := gdX11_four_25.2.2.2.2.1
theorem dX11_four_36 : decode cX11_four 36 = .ok (.return_, 1) := gdX11_four_25.2.2.2.2.2
theorem gdX11_feed_0 : (decode cX11_feed 0 = .ok (.aload_n 0, 1)) ∧ (decode cX11_feed 1 = .ok (.getfield 92, 3)) ∧ (decode cX11_feed 4 = .ok (.bipush 20, 2)) ∧ (decode cX11_feed 6 = .ok (.iadd, 1)) ∧ (decode cX11_feed 7 = .ok (.sipush 400, 3)) ∧ (decode cX11_feed 10 = .ok (.if_icmp .le 5, 3)) ∧ (decode cX11_feed 13 = .ok (.iconst (-1), 1)) ∧ (decode cX11_feed 14 = .ok (.ireturn, 1)) ∧ (decode cX11_feed 15 = .ok (.aload_n 0, 1)) ∧ (decode cX11_feed 16 = .ok (.iload_n 1, 1)) ∧ (decode cX11_feed 17 = .ok (.invokevirtual 96, 3)) ∧ (decode cX11_feed 20 = .ok (.aload_n 0, 1)) ∧ (decode cX11_feed 21 = .ok (.iload_n 2, 1)) ∧ (decode cX11_feed 22 = .ok (.invokevirtual 96, 3)) ∧ (decode cX11_feed 25 = .ok (.aload_n 0, 1)) ∧ (decode cX11_feed 26 = .ok (.iload_n 3, 1)) := by decide +kernel
theorem dX11_feed_0 : decode cX11_feed 0 = .ok (.aload_n 0, 1) := gdX11_feed_0.1
theorem dX11_feed_1 : decode cX11_feed 1 = .ok (.getfield 92, 3) := gdX11_feed_0.2.1
theorem dX11_feed_4 : decode cX11_feed 4 = .ok (.bipush 20, 2) := gdX11_feed_0.2.2.1
theorem dX11_feed_6 : decode cX11_feed 6 = .ok (.iadd, 1) := gdX11_feed_0.2.2.2.1
theorem dX11_feed_7 : decode cX11_feed 7 = .ok (.sipush 400, 3) := gdX11_feed_0.2.2.2.2.1
theorem dX11_feed_10 : decode cX11_feed 10 = .ok (.if_icmp .le 5, 3) := gdX11_feed_0.2.2.2.2.2.1
theorem dX11_feed_13 : decode cX11_feed 13 = .ok (.iconst (-1), 1) := gdX11_feed_0.2.2.2.2.2.2.1
theorem dX11_feed_14 : decode cX11_feed 14 = .ok (.ireturn, 1) := gdX11_feed_0.2.2.2.2.2.2.2.1
theorem dX11_feed_15 : decode cX11_feed 15 = .ok (.aload_n 0, 1) := gdX11_feed_0.2.2.2.2.2.2.2.2.1
theorem dX11_feed_16 : decode cX11_feed 16 = .ok (.iload_n 1, 1) := gdX11_feed_0.2.2.2.2.2.2.2.2.2.1
theorem dX11_feed_17 : decode cX11_feed 17 = .ok (.invokevirtual 96, 3) := gdX11_feed_0.2.2.2.2.2.2.2.2.2.2.1
theorem dX11_feed_20 : decode cX11_feed 20 = .ok (.aload_n 0, 1) := gdX11_feed_0.2.2.2.2.2.2.2.2.2.2.2.1
theorem dX11_feed_21 : decode cX11_feed 21 = .ok (.iload_n 2, 1) := gdX11_feed_0.2.2.2.2.2.2.2.2.2.2.2.2.1
theorem dX11_feed_22 : decode cX11_feed 22 = .ok (.invokevirtual 96, 3) := gdX11_feed_0.2.2.2.2.2.2.2.2.2.2.2.2.2.1
theorem dX11_feed_25 : decode cX11_feed 25 = .ok (.aload_n 0, 1) := gdX11_feed_0.2.2.2.2.2.2.2.2.2.2.2.2.2.2.1
theorem dX11_feed_26 : decode cX11_feed 26 = .ok (.iload_n 3, 1) := gdX11_feed_0.2.2.2.2.2.2.2.2.2.2.2.2.2.2.2
theorem gdX11_feed_27 : (decode cX11_feed 27 = .ok (.invokevirtual 96, 3)) ∧ (decode cX11_feed 30 = .ok (.aload_n 0, 1)) ∧ (decode cX11_feed 31 = .ok (.iload 4, 2)) ∧ (decode cX11_feed 33 = .ok (.invokevirtual 96, 3)) ∧ (decode cX11_feed 36 = .ok (.aload_n 0, 1)) ∧ (decode cX11_feed 37 = .ok (.iload 5, 2)) ∧ (decode cX11_feed 39 = .ok (.invokevirtual 96, 3)) ∧ (decode cX11_feed 42 = .ok (.aload_n 0, 1)) ∧ (decode cX11_feed 43 = .ok (.getfield 92, 3)) ∧ (decode cX11_feed 46 = .ok (.ireturn, 1)) := by decide +kernel
theorem dX11_feed_27 : decode cX11_feed 27 = .ok (.invokevirtual 96, 3) := gdX11_feed_27.1
theorem dX11_feed_30 : decode cX11_feed 30 = .ok (.aload_n 0, 1) := gdX11_feed_27.2.1
theorem dX11_feed_31 : decode cX11_feed 31 = .ok (.iload 4, 2) := gdX11_feed_27.2.2.1
theorem dX11_feed_33 : decode cX11_feed 33 = .ok (.invokevirtual 96, 3) := gdX11_feed_27.2.2.2.1
theorem dX11_feed_36 : decode cX11_feed 36 = .ok (.aload_n 0, 1) := gdX11_feed_27.2.2.2.2.1
theorem dX11_feed_37 : decode cX11_feed 37 = .ok (.iload 5, 2) := gdX11_feed_27.2.2.2.2.2.1
theorem dX11_feed_39 : decode cX11_feed 39 = .ok (.invokevirtual 96, 3) := gdX11_feed_27.2.2.2.2.2.2.1
theorem dX11_feed_42 : decode cX11_feed 42 = .ok (.aload_n 0, 1) := gdX11_feed_27.2.2.2.2.2.2.2.1
theorem dX11_feed_43 : decode cX11_feed 43 = .ok (.getfield 92, 3) := gdX11_feed_27.2.2.2.2.2.2.2.2.1
theorem dX11_feed_46 : decode cX11_feed 46 = .ok (.ireturn, 1) := gdX11_feed_27.2.2.2.2.2.2.2.2.2
theorem gdX11_end_0 : (decode cX11_end 0 = .ok (.iload_n 1, 1)) ∧ (decode cX11_end 1 = .ok (.ifCond .lt 11, 3)) ∧ (decode cX11_end 4 = .ok (.iload_n 1, 1)) ∧ (decode cX11_end 5 = .ok (.aload_n 0, 1)) ∧ (decode cX11_end 6 = .ok (.getfield 92, 3)) ∧ (decode cX11_end 9 = .ok (.if_icmp .le 5, 3)) ∧ (decode cX11_end 12 = .ok (.iconst (-1), 1)) ∧ (decode cX11_end 13 = .ok (.ireturn, 1)) ∧ (decode cX11_end 14 = .ok (.aload_n 0, 1)) ∧ (decode cX11_end 15 = .ok (.iload_n 1, 1)) ∧ (decode cX11_end 16 = .ok (.putfield 92, 3)) ∧ (decode cX11_end 19 = .ok (.iload_n 1, 1)) ∧ (decode cX11_end 20 = .ok (.ireturn, 1)) := by decide +kernel
theorem dX11_end_0 : decode cX11_end 0 = .ok (.iload_n 1, 1) := gdX11_end_0.1
theorem dX11_end_1 : decode cX11_end 1 = .ok (.ifCond .lt 11, 3) := gdX11_end_0.2.1
theorem dX11_end_4 : decode cX11_end 4 = .ok (.iload_n 1, 1) := gdX11_end_0.2.2.1
theorem dX11_end_5 : decode cX11_end 5 = .ok (.aload_n 0, 1) := gdX11_end_0.2.2.2.1
theorem dX11_end_6 : decode cX11_end 6 = .ok (.getfield 92, 3) := gdX11_end_0.2.2.2.2.1
theorem dX11_end_9 : decode cX11_end 9 = .ok (.if_icmp .le 5, 3) := gdX11_end_0.2.2.2.2.2.1
theorem dX11_end_12 : decode cX11_end 12 = .ok (.iconst (-1), 1) := gdX11_end_0.2.2.2.2.2.2.1
theorem dX11_end_13 : decode cX11_end 13 = .ok (.ireturn, 1) := gdX11_end_0.2.2.2.2.2.2.2.1
theorem dX11_end_14 : decode cX11_end 14 = .ok (.aload_n 0, 1) := gdX11_end_0.2.2.2.2.2.2.2.2.1
theorem dX11_end_15 : decode cX11_end 15 = .ok (.iload_n 1, 1) := gdX11_end_0.2.2.2.2.2.2.2.2.2.1
theorem dX11_end_16 : decode cX11_end 16 = .ok (.putfield 92, 3) := gdX11_end_0.2.2.2.2.2.2.2.2.2.2.1
theorem dX11_end_19 : decode cX11_end 19 = .ok (.iload_n 1, 1) := gdX11_end_0.2.2.2.2.2.2.2.2.2.2.2.1
theorem dX11_end_20 : decode cX11_end 20 = .ok (.ireturn, 1) := gdX11_end_0.2.2.2.2.2.2.2.2.2.2.2.2
theorem gdX11_fails_0 : (decode cX11_fails 0 = .ok (.aload_n 0, 1)) ∧ (decode cX11_fails 1 = .ok (.getfield 100, 3)) ∧ (decode cX11_fails 4 = .ok (.ifCond .ne 15, 3)) ∧ (decode cX11_fails 7 = .ok (.aload_n 0, 1)) ∧ (decode cX11_fails 8 = .ok (.iconst 1, 1)) ∧ (decode cX11_fails 9 = .ok (.bipush 8, 2)) ∧ (decode cX11_fails 11 = .ok (.iload_n 2, 1)) ∧ (decode cX11_fails 12 = .ok (.imul, 1)) ∧ (decode cX11_fails 13 = .ok (.iadd, 1)) ∧ (decode cX11_fails 14 = .ok (.iload_n 1, 1)) ∧ (decode cX11_fails 15 = .ok (.iadd, 1)) ∧ (decode cX11_fails 16 = .ok (.putfield 100, 3)) ∧ (decode cX11_fails 19 = .ok (.iconst 0, 1)) ∧ (decode cX11_fails 20 = .ok (.ireturn, 1)) := by decide +kernel
theorem dX11_fails_0 : decode cX11_fails 0 = .ok (.aload_n 0, 1) := gdX11_fails_0.1
theorem dX11_fails_1 : decode cX11_fails 1 = .ok (.getfield 100, 3) := gdX11_fails_0.2.1
theorem dX11_fails_4 : decode cX11_fails 4 = .ok (.ifCond .ne 15, 3) := gdX11_fails_0.2.2.1
theorem dX11_fails_7 : decode cX11_fails 7 = .ok (.aload_n 0, 1) := gdX11_fails_0.2.2.2.1
theorem dX11_fails_8 : decode cX11_fails 8 = .ok (.iconst 1, 1) := gdX11_fails_0.2.2.2.2.1
theorem dX11_fails_9 : decode cX11_fails 9 = .ok (.bipush 8, 2) := gdX11_fails_0.2.2.2.2.2.1
theorem dX11_fails_11 : decode cX11_fails 11 = .ok (.iload_n 2, 1) := gdX11_fails_0.2.2.2.2.2.2.1
theorem dX11_fails_12 : decode cX11_fails 12 = .ok (.imul, 1) := gdX11_fails_0.2.2.2.2.2.2.2.1
theorem dX11_fails_13 : decode cX11_fails 13 = .ok (.iadd, 1) := gdX11_fails_0.2.2.2.2.2.2.2.2.1
theorem dX11_fails_14 : decode cX11_fails 14 = .ok (.iload_n 1, 1) := gdX11_fails_0.2.2.2.2.2.2.2.2.2.1
theorem dX11_fails_15 : decode cX11_fails 15 = .ok (.iadd, 1) := gdX11_fails_0.2.2.2.2.2.2.2.2.2.2.1
theorem dX11_fails_16 : decode cX11_fails 16 = .ok (.putfield 100, 3) := gdX11_fails_0.2.2.2.2.2.2.2.2.2.2.2.1
theorem dX11_fails_19 : decode cX11_fails 19 = .ok (.iconst 0, 1) := gdX11_fails_0.2.2.2.2.2.2.2.2.2.2.2.2.1
theorem dX11_fails_20 : decode cX11_fails 20 = .ok (.ireturn, 1) := gdX11_fails_0.2.2.2.2.2.2.2.2.2.2.2.2.2
theorem gdX11_see_0 : (decode cX11_see 0 = .ok (.aload_n 0, 1)) ∧ (decode cX11_see 1 = .ok (.getfield 103, 3)) ∧ (decode cX11_see 4 = .ok (.aload_n 0, 1)) ∧ (decode cX11_see 5 = .ok (.getfield 92, 3)) ∧ (decode cX11_see 8 = .ok (.if_icmp .ge 30, 3)) ∧ (decode cX11_see 11 = .ok (.aload_n 0, 1)) ∧ (decode cX11_see 12 = .ok (.getfield 7, 3)) ∧ (decode cX11_see 15 = .ok (.aload_n 0, 1)) ∧ (decode cX11_see 16 = .ok (.getfield 103, 3)) ∧ (decode cX11_see 19 = .ok (.baload, 1)) ∧ (decode cX11_see 20 = .ok (.bipush 32, 2)) ∧ (decode cX11_see 22 = .ok (.if_icmp .ne 16, 3)) ∧ (decode cX11_see 25 = .ok (.aload_n 0, 1)) ∧ (decode cX11_see 26 = .ok (.dup, 1)) ∧ (decode cX11_see 27 = .ok (.getfield 103, 3)) ∧ (decode cX11_see 30 = .ok (.iconst 1, 1)) := by decide +kernel
theorem dX11_see_0 : decode cX11_see 0 = .ok (.aload_n 0, 1) := gdX11_see_0.1
theorem dX11_see_1 : decode cX11_see 1 = .ok (.getfield 103, 3) := gdX11_see_0.2.1
theorem dX11_see_4 : decode cX11_see 4 = .ok (.aload_n 0, 1) := gdX11_see_0.2.2.1
theorem dX11_see_5 : decode cX11_see 5 = .ok (.getfield 92, 3) := gdX11_see_0.2.2.2.1
theorem dX11_see_8 : decode cX11_see 8 = .ok (.if_icmp .ge 30, 3) := gdX11_see_0.2.2.2.2.1
theorem dX11_see_11 : decode cX11_see 11 = .ok (.aload_n 0, 1) := gdX11_see_0.2.2.2.2.2.1
theorem dX11_see_12 : decode cX11_see 12 = .ok (.getfield 7, 3) := gdX11_see_0.2.2.2.2.2.2.1
theorem dX11_see_15 : decode cX11_see 15 = .ok (.aload_n 0, 1) := gdX11_see_0.2.2.2.2.2.2.2.1
theorem dX11_see_16 : decode cX11_see 16 = .ok (.getfield 103, 3) := gdX11_see_0.2.2.2.2.2.2.2.2.1
theorem dX11_see_19 : decode cX11_see 19 = .ok (.baload, 1) := gdX11_see_0.2.2.2.2.2.2.2.2.2.1
theorem dX11_see_20 : decode cX11_see 20 = .ok (.bipush 32, 2) := gdX11_see_0.2.2.2.2.2.2.2.2.2.2.1
theorem dX11_see_22 : decode cX11_see 22 = .ok (.if_icmp .ne 16, 3) := gdX11_see_0.2.2.2.2.2.2.2.2.2.2.2.1
theorem dX11_see_25 : decode cX11_see 25 = .ok (.aload_n 0, 1) := gdX11_see_0.2.2.2.2.2.2.2.2.2.2.2.2.1
theorem dX11_see_26 : decode cX11_see 26 = .ok (.dup, 1) := gdX11_see_0.2.2.2.2.2.2.2.2.2.2.2.2.2.1
theorem dX11_see_27 : decode cX11_see 27 = .ok (.getfield 103, 3) := gdX11_see_0.2.2.2.2.2.2.2.2.2.2.2.2.2.2.1
theorem dX11_see_30 : decode cX11_see 30 = .ok (.iconst 1, 1) := gdX11_see_0.2.2.2.2.2.2.2.2.2.2.2.2.2.2.2
theorem gdX11_see_31 : (decode cX11_see 31 = .ok (.iadd, 1)) ∧ (decode cX11_see 32 = .ok (.putfield 103, 3)) ∧ (decode cX11_see 35 = .ok (.goto (-35), 3)) ∧ (decode cX11_see 38 = .ok (.aload_n 0, 1)) ∧ (decode cX11_see 39 = .ok (.getfield 103, 3)) ∧ (decode cX11_see 42 = .ok (.aload_n 0, 1)) ∧ (decode cX11_see 43 = .ok (.getfield 92, 3)) ∧ (decode cX11_see 46 = .ok (.if_icmp .ge 19, 3)) ∧ (decode cX11_see 49 = .ok (.aload_n 0, 1)) ∧ (decode cX11_see 50 = .ok (.getfield 7, 3)) ∧ (decode cX11_see 53 = .ok (.aload_n 0, 1)) ∧ (decode cX11_see 54 = .ok (.getfield 103, 3)) ∧ (decode cX11_see 57 = .ok (.baload, 1)) ∧ (decode cX11_see 58 = .ok (.sipush 255, 3)) ∧ (decode cX11_see 61 = .ok (.iand, 1)) ∧ (decode cX11_see 62 = .ok (.goto 4, 3)) := by decide +kernel
theorem dX11_see_31 : decode cX11_see 31 = .ok (.iadd, 1) := gdX11_see_31.1
theorem dX11_see_32 : decode cX11_see 32 = .ok (.putfield 103, 3) := gdX11_see_31.2.1
theorem dX11_see_35 : decode cX11_see 35 = .ok (.goto (-35), 3) := gdX11_see_31.2.2.1
theorem dX11_see_38 : decode cX11_see 38 = .ok (.aload_n 0, 1) := gdX11_see_31.2.2.2.1
theorem dX11_see_39 : decode cX11_see 39 = .ok (.getfield 103, 3) := gdX11_see_31.2.2.2.2.1
theorem dX11_see_42 : decode cX11_see 42 = .ok (.aload_n 0, 1) := gdX11_see_31.2.2.2.2.2.1
theorem dX11_see_43 : decode cX11_see 43 = .ok (.getfield 92, 3) := gdX11_see_31.2.2.2.2.2.2.1
theorem dX11_see_46 : decode cX11_see 46 = .ok (.if_icmp .ge 19, 3) := gdX11_see_31.2.2.2.2.2.2.2.1
theorem dX11_see_49 : decode cX11_see 49 = .ok (.aload_n 0, 1) := gdX11_see_31.2.2.2.2.2.2.2.2.1
theorem dX11_see_50 : decode cX11_see 50 = .ok (.getfield 7, 3) := gdX11_see_31.2.2.2.2.2.2.2.2.2.1
theorem dX11_see_53 : decode cX11_see 53 = .ok (.aload_n 0, 1) := gdX11_see_31.2.2.2.2.2.2.2.2.2.2.1
theorem dX11_see_54 : decode cX11_see 54 = .ok (.getfield 103, 3) := gdX11_see_31.2.2.2.2.2.2.2.2.2.2.2.1
theorem dX11_see_57 : decode cX11_see 57 = .ok (.baload, 1) := gdX11_see_31.2.2.2.2.2.2.2.2.2.2.2.2.1
theorem dX11_see_58 : decode cX11_see 58 = .ok (.sipush 255, 3) := gdX11_see_31.2.2.2.2.2.2.2.2.2.2.2.2.2.1
theorem dX11_see_61 : decode cX11_see 61 = .ok (.iand, 1) := gdX11_see_31.2.2.2.2.2.2.2.2.2.2.2.2.2.2.1
theorem dX11_see_62 : decode cX11_see 62 = .ok (.goto 4, 3) := gdX11_see_31.2.2.2.2.2.2.2.2.2.2.2.2.2.2.2
theorem gdX11_see_65 : (decode cX11_see 65 = .ok (.iconst (-1), 1)) ∧ (decode cX11_see 66 = .ok (.ireturn, 1)) := by decide +kernel
theorem dX11_see_65 : decode cX11_see 65 = .ok (.iconst (-1), 1) := gdX11_see_65.1
theorem dX11_see_66 : decode cX11_see 66 = .ok (.ireturn, 1) := gdX11_see_65.2
theorem gdX11_isDigit_0 : (decode cX11_isDigit 0 = .ok (.iload_n 1, 1)) ∧ (decode cX11_isDigit 1 = .ok (.aload_n 0, 1)) ∧ (decode cX11_isDigit 2 = .ok (.getfield 92, 3)) ∧ (decode cX11_isDigit 5 = .ok (.if_icmp .ge 29, 3)) ∧ (decode cX11_isDigit 8 = .ok (.aload_n 0, 1)) ∧ (decode cX11_isDigit 9 = .ok (.getfield 7, 3)) ∧ (decode cX11_isDigit 12 = .ok (.iload_n 1, 1)) ∧ (decode cX11_isDigit 13 = .ok (.baload, 1)) ∧ (decode cX11_isDigit 14 = .ok (.bipush 48, 2)) ∧ (decode cX11_isDigit 16 = .ok (.if_icmp .lt 18, 3)) ∧ (decode cX11_isDigit 19 = .ok (.aload_n 0, 1)) ∧ (decode cX11_isDigit 20 = .ok (.getfield 7, 3)) ∧ (decode cX11_isDigit 23 = .ok (.iload_n 1, 1)) ∧ (decode cX11_isDigit 24 = .ok (.baload, 1)) ∧ (decode cX11_isDigit 25 = .ok (.bipush 57, 2)) ∧ (decode cX11_isDigit 27 = .ok (.if_icmp .gt 7, 3)) := by decide +kernel
theorem dX11_isDigit_0 : decode cX11_isDigit 0 = .ok (.iload_n 1, 1) := gdX11_isDigit_0.1
theorem dX11_isDigit_1 : decode cX11_isDigit 1 = .ok (.aload_n 0, 1) := gdX11_isDigit_0.2.1
theorem dX11_isDigit_2 : decode cX11_isDigit 2 = .ok (.getfield 92, 3) := gdX11_isDigit_0.2.2.1
theorem dX11_isDigit_5 : decode cX11_isDigit 5 = .ok (.if_icmp .ge 29, 3) := gdX11_isDigit_0.2.2.2.1
theorem dX11_isDigit_8 : decode cX11_isDigit 8 = .ok (.aload_n 0, 1) := gdX11_isDigit_0.2.2.2.2.1
theorem dX11_isDigit_9 : decode cX11_isDigit 9 = .ok (.getfield 7, 3) := gdX11_isDigit_0.2.2.2.2.2.1
theorem dX11_isDigit_12 : decode cX11_isDigit 12 = .ok (.iload_n 1, 1) := gdX11_isDigit_0.2.2.2.2.2.2.1
theorem dX11_isDigit_13 : decode cX11_isDigit 13 = .ok (.baload, 1) := gdX11_isDigit_0.2.2.2.2.2.2.2.1
theorem dX11_isDigit_14 : decode cX11_isDigit 14 = .ok (.bipush 48, 2) := gdX11_isDigit_0.2.2.2.2.2.2.2.2.1
theorem dX11_isDigit_16 : decode cX11_isDigit 16 = .ok (.if_icmp .lt 18, 3) := gdX11_isDigit_0.2.2.2.2.2.2.2.2.2.1
theorem dX11_isDigit_19 : decode cX11_isDigit 19 = .ok (.aload_n 0, 1) := gdX11_isDigit_0.2.2.2.2.2.2.2.2.2.2.1
theorem dX11_isDigit_20 : decode cX11_isDigit 20 = .ok (.getfield 7, 3) := gdX11_isDigit_0.2.2.2.2.2.2.2.2.2.2.2.1
theorem dX11_isDigit_23 : decode cX11_isDigit 23 = .ok (.iload_n 1, 1) := gdX11_isDigit_0.2.2.2.2.2.2.2.2.2.2.2.2.1
theorem dX11_isDigit_24 : decode cX11_isDigit 24 = .ok (.baload, 1) := gdX11_isDigit_0.2.2.2.2.2.2.2.2.2.2.2.2.2.1
theorem dX11_isDigit_25 : decode cX11_isDigit 25 = .ok (.bipush 57, 2) := gdX11_isDigit_0.2.2.2.2.2.2.2.2.2.2.2.2.2.2.1
theorem dX11_isDigit_27 : decode cX11_isDigit 27 = .ok (.if_icmp .gt 7, 3) := gdX11_isDigit_0.2.2.2.2.2.2.2.2.2.2.2.2.2.2.2
theorem gdX11_isDigit_30 : (decode cX11_isDigit 30 = .ok (.iconst 1, 1)) ∧ (decode cX11_isDigit 31 = .ok (.goto 4, 3)) ∧ (decode cX11_isDigit 34 = .ok (.iconst 0, 1)) ∧ (decode cX11_isDigit 35 = .ok (.ireturn, 1)) := by decide +kernel
theorem dX11_isDigit_30 : decode cX11_isDigit 30 = .ok (.iconst 1, 1) := gdX11_isDigit_30.1
theorem dX11_isDigit_31 : decode cX11_isDigit 31 = .ok (.goto 4, 3) := gdX11_isDigit_30.2.1
theorem dX11_isDigit_34 : decode cX11_isDigit 34 = .ok (.iconst 0, 1) := gdX11_isDigit_30.2.2.1
theorem dX11_isDigit_35 : decode cX11_isDigit 35 = .ok (.ireturn, 1) := gdX11_isDigit_30.2.2.2
theorem gdX11_isLetter_0 : (decode cX11_isLetter 0 = .ok (.iload_n 1, 1)) ∧ (decode cX11_isLetter 1 = .ok (.aload_n 0, 1)) ∧ (decode cX11_isLetter 2 = .ok (.getfield 92, 3)) ∧ (decode cX11_isLetter 5 = .ok (.if_icmp .ge 29, 3)) ∧ (decode cX11_isLetter 8 = .ok (.aload_n 0, 1)) ∧ (decode cX11_isLetter 9 = .ok (.getfield 7, 3)) ∧ (decode cX11_isLetter 12 = .ok (.iload_n 1, 1)) ∧ (decode cX11_isLetter 13 = .ok (.baload, 1)) ∧ (decode cX11_isLetter 14 = .ok (.bipush 97, 2)) ∧ (decode cX11_isLetter 16 = .ok (.if_icmp .lt 18, 3)) ∧ (decode cX11_isLetter 19 = .ok (.aload_n 0, 1)) ∧ (decode cX11_isLetter 20 = .ok (.getfield 7, 3)) ∧ (decode cX11_isLetter 23 = .ok (.iload_n 1, 1)) ∧ (decode cX11_isLetter 24 = .ok (.baload, 1)) ∧ (decode cX11_isLetter 25 = .ok (.bipush 122, 2)) ∧ (decode cX11_isLetter 27 = .ok (.if_icmp .gt 7, 3)) := by decide +kernel
theorem dX11_isLetter_0 : decode cX11_isLetter 0 = .ok (.iload_n 1, 1) := gdX11_isLetter_0.1
theorem dX11_isLetter_1 : decode cX11_isLetter 1 = .ok (.aload_n 0, 1) := gdX11_isLetter_0.2.1
theorem dX11_isLetter_2 : decode cX11_isLetter 2 = .ok (.getfield 92, 3) := gdX11_isLetter_0.2.2.1
theorem dX11_isLetter_5 : decode cX11_isLetter 5 = .ok (.if_icmp .ge 29, 3) := gdX11_isLetter_0.2.2.2.1
theorem dX11_isLetter_8 : decode cX11_isLetter 8 = .ok (.aload_n 0, 1) := gdX11_isLetter_0.2.2.2.2.1
theorem dX11_isLetter_9 : decode cX11_isLetter 9 = .ok (.getfield 7, 3) := gdX11_isLetter_0.2.2.2.2.2.1
theorem dX11_isLetter_12 : decode cX11_isLetter 12 = .ok (.iload_n 1, 1) := gdX11_isLetter_0.2.2.2.2.2.2.1
theorem dX11_isLetter_13 : decode cX11_isLetter 13 = .ok (.baload, 1) := gdX11_isLetter_0.2.2.2.2.2.2.2.1
theorem dX11_isLetter_14 : decode cX11_isLetter 14 = .ok (.bipush 97, 2) := gdX11_isLetter_0.2.2.2.2.2.2.2.2.1
theorem dX11_isLetter_16 : decode cX11_isLetter 16 = .ok (.if_icmp .lt 18, 3) := gdX11_isLetter_0.2.2.2.2.2.2.2.2.2.1
theorem dX11_isLetter_19 : decode cX11_isLetter 19 = .ok (.aload_n 0, 1) := gdX11_isLetter_0.2.2.2.2.2.2.2.2.2.2.1
theorem dX11_isLetter_20 : decode cX11_isLetter 20 = .ok (.getfield 7, 3) := gdX11_isLetter_0.2.2.2.2.2.2.2.2.2.2.2.1
theorem dX11_isLetter_23 : decode cX11_isLetter 23 = .ok (.iload_n 1, 1) := gdX11_isLetter_0.2.2.2.2.2.2.2.2.2.2.2.2.1
theorem dX11_isLetter_24 : decode cX11_isLetter 24 = .ok (.baload, 1) := gdX11_isLetter_0.2.2.2.2.2.2.2.2.2.2.2.2.2.1
theorem dX11_isLetter_25 : decode cX11_isLetter 25 = .ok (.bipush 122, 2) := gdX11_isLetter_0.2.2.2.2.2.2.2.2.2.2.2.2.2.2.1
theorem dX11_isLetter_27 : decode cX11_isLetter 27 = .ok (.if_icmp .gt 7, 3) := gdX11_isLetter_0.2.2.2.2.2.2.2.2.2.2.2.2.2.2.2
theorem gdX11_isLetter_30 : (decode cX11_isLetter 30 = .ok (.iconst 1, 1)) ∧ (decode cX11_isLetter 31 = .ok (.goto 4, 3)) ∧ (decode cX11_isLetter 34 = .ok (.iconst 0, 1)) ∧ (decode cX11_isLetter 35 = .ok (.ireturn, 1)) := by decide +kernel
theorem dX11_isLetter_30 : decode cX11_isLetter 30 = .ok (.iconst 1, 1) := gdX11_isLetter_30.1
theorem dX11_isLetter_31 : decode cX11_isLetter 31 = .ok (.goto 4, 3) := gdX11_isLetter_30.2.1
theorem dX11_isLetter_34 : decode cX11_isLetter 34 = .ok (.iconst 0, 1) := gdX11_isLetter_30.2.2.1
theorem dX11_isLetter_35 : decode cX11_isLetter 35 = .ok (.ireturn, 1) := gdX11_isLetter_30.2.2.2
theorem gdX11_isWord_0 : (decode cX11_isWord 0 = .ok (.aload_n 0, 1)) ∧ (decode cX11_isWord 1 = .ok (.invokevirtual 106, 3)) ∧ (decode cX11_isWord 4 = .ok (.pop, 1)) ∧ (decode cX11_isWord 5 = .ok (.lconst 0, 1)) ∧ (decode cX11_isWord 6 = .ok (.lstore_n 3, 1)) ∧ (decode cX11_isWord 7 = .ok (.iconst 0, 1)) ∧ (decode cX11_isWord 8 = .ok (.istore 5, 2)) ∧ (decode cX11_isWord 10 = .ok (.aload_n 0, 1)) ∧ (decode cX11_isWord 11 = .ok (.aload_n 0, 1)) ∧ (decode cX11_isWord 12 = .ok (.getfield 103, 3)) ∧ (decode cX11_isWord 15 = .ok (.iload 5, 2)) ∧ (decode cX11_isWord 17 = .ok (.iadd, 1)) ∧ (decode cX11_isWord 18 = .ok (.invokevirtual 110, 3)) ∧ (decode cX11_isWord 21 = .ok (.ifCond .eq 35, 3)) ∧ (decode cX11_isWord 24 = .ok (.iload 5, 2)) ∧ (decode cX11_isWord 26 = .ok (.bipush 8, 2)) := by decide +kernel
theorem dX11_isWord_0 : decode cX11_isWord 0 = .ok (.aload_n 0, 1) := gdX11_isWord_0.1
theorem dX11_isWord_1 : decode cX11_isWord 1 = .ok (.invokevirtual 106, 3) := gdX11_isWord_0.2.1
theorem dX11_isWord_4 : decode cX11_isWord 4 = .ok (.pop, 1) := gdX11_isWord_0.2.2.1
theorem dX11_isWord_5 : decode cX11_isWord 5 = .ok (.lconst 0, 1) := gdX11_isWord_0.2.2.2.1
theorem dX11_isWord_6 : decode cX11_isWord 6 = .ok (.lstore_n 3, 1) := gdX11_isWord_0.2.2.2.2.1
theorem dX11_isWord_7 : decode cX11_isWord 7 = .ok (.iconst 0, 1) := gdX11_isWord_0.2.2.2.2.2.1
theorem dX11_isWord_8 : decode cX11_isWord 8 = .ok (.istore 5, 2) := gdX11_isWord_0.2.2.2.2.2.2.1
theorem dX11_isWord_10 : decode cX11_isWord 10 = .ok (.aload_n 0, 1) := gdX11_isWord_0.2.2.2.2.2.2.2.1
theorem dX11_isWord_11 : decode cX11_isWord 11 = .ok (.aload_n 0, 1) := gdX11_isWord_0.2.2.2.2.2.2.2.2.1
theorem dX11_isWord_12 : decode cX11_isWord 12 = .ok (.getfield 103, 3) := gdX11_isWord_0.2.2.2.2.2.2.2.2.2.1
theorem dX11_isWord_15 : decode cX11_isWord 15 = .ok (.iload 5, 2) := gdX11_isWord_0.2.2.2.2.2.2.2.2.2.2.1
theorem dX11_isWord_17 : decode cX11_isWord 17 = .ok (.iadd, 1) := gdX11_isWord_0.2.2.2.2.2.2.2.2.2.2.2.1
theorem dX11_isWord_18 : decode cX11_isWord 18 = .ok (.invokevirtual 110, 3) := gdX11_isWord_0.2.2.2.2.2.2.2.2.2.2.2.2.1
theorem dX11_isWord_21 : decode cX11_isWord 21 = .ok (.ifCond .eq 35, 3) := gdX11_isWord_0.2.2.2.2.2.2.2.2.2.2.2.2.2.1
theorem dX11_isWord_24 : decode cX11_isWord 24 = .ok (.iload 5, 2) := gdX11_isWord_0.2.2.2.2.2.2.2.2.2.2.2.2.2.2.1
theorem dX11_isWord_26 : decode cX11_isWord 26 = .ok (.bipush 8, 2) := gdX11_isWord_0.2.2.2.2.2.2.2.2.2.2.2.2.2.2.2
theorem gdX11_isWord_28 : (decode cX11_isWord 28 = .ok (.if_icmp .ge 22, 3)) ∧ (decode cX11_isWord 31 = .ok (.lload_n 3, 1)) ∧ (decode cX11_isWord 32 = .ok (.bipush 8, 2)) ∧ (decode cX11_isWord 34 = .ok (.lshl, 1)) ∧ (decode cX11_isWord 35 = .ok (.aload_n 0, 1)) ∧ (decode cX11_isWord 36 = .ok (.getfield 7, 3)) ∧ (decode cX11_isWord 39 = .ok (.aload_n 0, 1)) ∧ (decode cX11_isWord 40 = .ok (.getfield 103, 3)) ∧ (decode cX11_isWord 43 = .ok (.iload 5, 2)) ∧ (decode cX11_isWord 45 = .ok (.iadd, 1)) ∧ (decode cX11_isWord 46 = .ok (.baload, 1)) ∧ (decode cX11_isWord 47 = .ok (.i2l, 1)) ∧ (decode cX11_isWord 48 = .ok (.lor, 1)) ∧ (decode cX11_isWord 49 = .ok (.lstore_n 3, 1)) ∧ (decode cX11_isWord 50 = .ok (.iinc 5 1, 3)) ∧ (decode cX11_isWord 53 = .ok (.goto (-43), 3)) := by decide +kernel
theorem dX11_isWord_28 : decode cX11_isWord 28 = .ok (.if_icmp .ge 22, 3) := gdX11_isWord_28.1
theorem dX11_isWord_31 : decode cX11_isWord 31 = .ok (.lload_n 3, 1) := gdX11_isWord_28.2.1
theorem dX11_isWord_32 : decode cX11_isWord 32 = .ok (.bipush 8, 2) := gdX11_isWord_28.2.2.1
theorem dX11_isWord_34 : decode cX11_isWord 34 = .ok (.lshl, 1) := gdX11_isWord_28.2.2.2.1
theorem dX11_isWord_35 : decode cX11_isWord 35 = .ok (.aload_n 0, 1) := gdX11_isWord_28.2.2.2.2.1
theorem dX11_isWord_36 : decode cX11_isWord 36 = .ok (.getfield 7, 3) := gdX11_isWord_28.2.2.2.2.2.1
theorem dX11_isWord_39 : decode cX11_isWord 39 = .ok (.aload_n 0, 1) := gdX11_isWord_28.2.2.2.2.2.2.1
theorem dX11_isWord_40 : decode cX11_isWord 40 = .ok (.getfield 103, 3) := gdX11_isWord_28.2.2.2.2.2.2.2.1
theorem dX11_isWord_43 : decode cX11_isWord 43 = .ok (.iload 5, 2) := gdX11_isWord_28.2.2.2.2.2.2.2.2.1
theorem dX11_isWord_45 : decode cX11_isWord 45 = .ok (.iadd, 1) := gdX11_isWord_28.2.2.2.2.2.2.2.2.2.1
theorem dX11_isWord_46 : decode cX11_isWord 46 = .ok (.baload, 1) := gdX11_isWord_28.2.2.2.2.2.2.2.2.2.2.1
theorem dX11_isWord_47 : decode cX11_isWord 47 = .ok (.i2l, 1) := gdX11_isWord_28.2.2.2.2.2.2.2.2.2.2.2.1
theorem dX11_isWord_48 : decode cX11_isWord 48 = .ok (.lor, 1) := gdX11_isWord_28.2.2.2.2.2.2.2.2.2.2.2.2.1
theorem dX11_isWord_49 : decode cX11_isWord 49 = .ok (.lstore_n 3, 1) := gdX11_isWord_28.2.2.2.2.2.2.2.2.2.2.2.2.2.1
theorem dX11_isWord_50 : decode cX11_isWord 50 = .ok (.iinc 5 1, 3) := gdX11_isWord_28.2.2.2.2.2.2.2.2.2.2.2.2.2.2.1
theorem dX11_isWord_53 : decode cX11_isWord 53 = .ok (.goto (-43), 3) := gdX11_isWord_28.2.2.2.2.2.2.2.2.2.2.2.2.2.2.2
theorem gdX11_isWord_56 : (decode cX11_isWord 56 = .ok (.iload 5, 2)) ∧ (decode cX11_isWord 58 = .ok (.ifCond .le 20, 3)) ∧ (decode cX11_isWord 61 = .ok (.iload 5, 2)) ∧ (decode cX11_isWord 63 = .ok (.bipush 9, 2)) ∧ (decode cX11_isWord 65 = .ok (.if_icmp .ge 13, 3)) ∧ (decode cX11_isWord 68 = .ok (.lload_n 3, 1)) ∧ (decode cX11_isWord 69 = .ok (.lload_n 1, 1)) ∧ (decode cX11_isWord 70 = .ok (.lcmp, 1)) ∧ (decode cX11_isWord 71 = .ok (.ifCond .ne 7, 3)) ∧ (decode cX11_isWord 74 = .ok (.iconst 1, 1)) ∧ (decode cX11_isWord 75 = .ok (.goto 4, 3)) ∧ (decode cX11_isWord 78 = .ok (.iconst 0, 1)) ∧ (decode cX11_isWord 79 = .ok (.ireturn, 1)) := by decide +kernel
theorem dX11_isWord_56 : decode cX11_isWord 56 = .ok (.iload 5, 2) := gdX11_isWord_56.1
theorem dX11_isWord_58 : decode cX11_isWord 58 = .ok (.ifCond .le 20, 3) := gdX11_isWord_56.2.1
theorem dX11_isWord_61 : decode cX11_isWord 61 = .ok (.iload 5, 2) := gdX11_isWord_56.2.2.1
theorem dX11_isWord_63 : decode cX11_isWord 63 = .ok (.bipush 9, 2) := gdX11_isWord_56.2.2.2.1
theorem dX11_isWord_65 : decode cX11_isWord 65 = .ok (.if_icmp .ge 13, 3) := gdX11_isWord_56.2.2.2.2.1
theorem dX11_isWord_68 : decode cX11_isWord 68 = .ok (.lload_n 3, 1) := gdX11_isWord_56.2.2.2.2.2.1
theorem dX11_isWord_69 : decode cX11_isWord 69 = .ok (.lload_n 1, 1) := gdX11_isWord_56.2.2.2.2.2.2.1
theorem dX11_isWord_70 : decode cX11_isWord 70 = .ok (.lcmp, 1) := gdX11_isWord_56.2.2.2.2.2.2.2.1
theorem dX11_isWord_71 : decode cX11_isWord 71 = .ok (.ifCond .ne 7, 3) := gdX11_isWord_56.2.2.2.2.2.2.2.2.1
theorem dX11_isWord_74 : decode cX11_isWord 74 = .ok (.iconst 1, 1) := gdX11_isWord_56.2.2.2.2.2.2.2.2.2.1
theorem dX11_isWord_75 : decode cX11_isWord 75 = .ok (.goto 4, 3) := gdX11_isWord_56.2.2.2.2.2.2.2.2.2.2.1
theorem dX11_isWord_78 : decode cX11_isWord 78 = .ok (.iconst 0, 1) := gdX11_isWord_56.2.2.2.2.2.2.2.2.2.2.2.1
theorem dX11_isWord_79 : decode cX11_isWord 79 = .ok (.ireturn, 1) := gdX11_isWord_56.2.2.2.2.2.2.2.2.2.2.2.2
theorem gdX11_passWord_0 : (decode cX11_passWord 0 = .ok (.aload_n 0, 1)) ∧ (decode cX11_passWord 1 = .ok (.aload_n 0, 1)) ∧ (decode cX11_passWord 2 = .ok (.getfield 103, 3)) ∧ (decode cX11_passWord 5 = .ok (.invokevirtual 110, 3)) ∧ (decode cX11_passWord 8 = .ok (.ifCond .eq 16, 3)) ∧ (decode cX11_passWord 11 = .ok (.aload_n 0, 1)) ∧ (decode cX11_passWord 12 = .ok (.dup, 1)) ∧ (decode cX11_passWord 13 = .ok (.getfield 103, 3)) ∧ (decode cX11_passWord 16 = .ok (.iconst 1, 1)) ∧ (decode cX11_passWord 17 = .ok (.iadd, 1)) ∧ (decode cX11_passWord 18 = .ok (.putfield 103, 3)) ∧ (decode cX11_passWord 21 = .ok (.goto (-21), 3)) ∧ (decode cX11_passWord 24 = .ok (.return_, 1)) := by decide +kernel
theorem dX11_passWord_0 : decode cX11_passWord 0 = .ok (.aload_n 0, 1) := gdX11_passWord_0.1
theorem dX11_passWord_1 : decode cX11_passWord 1 = .ok (.aload_n 0, 1) := gdX11_passWord_0.2.1
theorem dX11_passWord_2 : decode cX11_passWord 2 = .ok (.getfield 103, 3) := gdX11_passWord_0.2.2.1
theorem dX11_passWord_5 : decode cX11_passWord 5 = .ok (.invokevirtual 110, 3) := gdX11_passWord_0.2.2.2.1
theorem dX11_passWord_8 : decode cX11_passWord 8 = .ok (.ifCond .eq 16, 3) := gdX11_passWord_0.2.2.2.2.1
theorem dX11_passWord_11 : decode cX11_passWord 11 = .ok (.aload_n 0, 1) := gdX11_passWord_0.2.2.2.2.2.1
theorem dX11_passWord_12 : decode cX11_passWord 12 = .ok (.dup, 1) := gdX11_passWord_0.2.2.2.2.2.2.1
theorem dX11_passWord_13 : decode cX11_passWord 13 = .ok (.getfield 103, 3) := gdX11_passWord_0.2.2.2.2.2.2.2.1
theorem dX11_passWord_16 : decode cX11_passWord 16 = .ok (.iconst 1, 1) := gdX11_passWord_0.2.2.2.2.2.2.2.2.1
theorem dX11_passWord_17 : decode cX11_passWord 17 = .ok (.iadd, 1) := gdX11_passWord_0.2.2.2.2.2.2.2.2.2.1
theorem dX11_passWord_18 : decode cX11_passWord 18 = .ok (.putfield 103, 3) := gdX11_passWord_0.2.2.2.2.2.2.2.2.2.2.1
theorem dX11_passWord_21 : decode cX11_passWord 21 = .ok (.goto (-21), 3) := gdX11_passWord_0.2.2.2.2.2.2.2.2.2.2.2.1
theorem dX11_passWord_24 : decode cX11_passWord 24 = .ok (.return_, 1) := gdX11_passWord_0.2.2.2.2.2.2.2.2.2.2.2.2
theorem gdX11_takesWord_0 : (decode cX11_takesWord 0 = .ok (.aload_n 0, 1)) ∧ (decode cX11_takesWord 1 = .ok (.lload_n 1, 1)) ∧ (decode cX11_takesWord 2 = .ok (.invokevirtual 114, 3)) ∧ (decode cX11_takesWord 5 = .ok (.ifCond .ne 5, 3)) ∧ (decode cX11_takesWord 8 = .ok (.iconst 0, 1)) ∧ (decode cX11_takesWord 9 = .ok (.ireturn, 1)) ∧ (decode cX11_takesWord 10 = .ok (.aload_n 0, 1)) ∧ (decode cX11_takesWord 11 = .ok (.invokevirtual 118, 3)) ∧ (decode cX11_takesWord 14 = .ok (.iconst 1, 1)) ∧ (decode cX11_takesWord 15 = .ok (.ireturn, 1)) := by decide +kernel
theorem dX11_takesWord_0 : decode cX11_takesWord 0 = .ok (.aload_n 0, 1) := gdX11_takesWord_0.1
theorem dX11_takesWord_1 : decode cX11_takesWord 1 = .ok (.lload_n 1, 1) := gdX11_takesWord_0.2.1
theorem dX11_takesWord_2 : decode cX11_takesWord 2 = .ok (.invokevirtual 114, 3) := gdX11_takesWord_0.2.2.1
theorem dX11_takesWord_5 : decode cX11_takesWord 5 = .ok (.ifCond .ne 5, 3) := gdX11_takesWord_0.2.2.2.1
theorem dX11_takesWord_8 : decode cX11_takesWord 8 = .ok (.iconst 0, 1) := gdX11_takesWord_0.2.2.2.2.1
theorem dX11_takesWord_9 : decode cX11_takesWord 9 = .ok (.ireturn, 1) := gdX11_takesWord_0.2.2.2.2.2.1
theorem dX11_takesWord_10 : decode cX11_takesWord 10 = .ok (.aload_n 0, 1) := gdX11_takesWord_0.2.2.2.2.2.2.1
theorem dX11_takesWord_11 : decode cX11_takesWord 11 = .ok (.invokevirtual 118, 3) := gdX11_takesWord_0.2.2.2.2.2.2.2.1
theorem dX11_takesWord_14 : decode cX11_takesWord 14 = .ok (.iconst 1, 1) := gdX11_takesWord_0.2.2.2.2.2.2.2.2.1
theorem dX11_takesWord_15 : decode cX11_takesWord 15 = .ok (.ireturn, 1) := gdX11_takesWord_0.2.2.2.2.2.2.2.2.2
theorem gdX11_numberHere_0 : (decode cX11_numberHere 0 = .ok (.aload_n 0, 1)) ∧ (decode cX11_numberHere 1 = .ok (.invokevirtual 106, 3)) ∧ (decode cX11_numberHere 4 = .ok (.pop, 1)) ∧ (decode cX11_numberHere 5 = .ok (.aload_n 0, 1)) ∧ (decode cX11_numberHere 6 = .ok (.aload_n 0, 1)) ∧ (decode cX11_numberHere 7 = .ok (.getfield 103, 3)) ∧ (decode cX11_numberHere 10 = .ok (.invokevirtual 121, 3)) ∧ (decode cX11_numberHere 13 = .ok (.ifCond .ne 13, 3)) ∧ (decode cX11_numberHere 16 = .ok (.aload_n 0, 1)) ∧ (decode cX11_numberHere 17 = .ok (.iconst 0, 1)) ∧ (decode cX11_numberHere 18 = .ok (.aload_n 0, 1)) ∧ (decode cX11_numberHere 19 = .ok (.getfield 103, 3)) ∧ (decode cX11_numberHere 22 = .ok (.invokevirtual 124, 3)) ∧ (decode cX11_numberHere 25 = .ok (.ireturn, 1)) ∧ (decode cX11_numberHere 26 = .ok (.aload_n 0, 1)) ∧ (decode cX11_numberHere 27 = .ok (.getfield 103, 3)) := by decide +kernel
theorem dX11_numberHere_0 : decode cX11_numberHere 0 = .ok (.aload_n 0, 1) := gdX11_numberHere_0.1
theorem dX11_numberHere_1 : decode cX11_numberHere 1 = .ok (.invokevirtual 106, 3) := gdX11_numberHere_0.2.1
theorem dX11_numberHere_4 : decode cX11_numberHere 4 = .ok (.pop, 1) := gdX11_numberHere_0.2.2.1
theorem dX11_numberHere_5 : decode cX11_numberHere 5 = .ok (.aload_n 0, 1) := gdX11_numberHere_0.2.2.2.1
theorem dX11_numberHere_6 : decode cX11_numberHere 6 = .ok (.aload_n 0, 1) := gdX11_numberHere_0.2.2.2.2.1
theorem dX11_numberHere_7 : decode cX11_numberHere 7 = .ok (.getfield 103, 3) := gdX11_numberHere_0.2.2.2.2.2.1
theorem dX11_numberHere_10 : decode cX11_numberHere 10 = .ok (.invokevirtual 121, 3) := gdX11_numberHere_0.2.2.2.2.2.2.1
theorem dX11_numberHere_13 : decode cX11_numberHere 13 = .ok (.ifCond .ne 13, 3) := gdX11_numberHere_0.2.2.2.2.2.2.2.1
theorem dX11_numberHere_16 : decode cX11_numberHere 16 = .ok (.aload_n 0, 1) := gdX11_numberHere_0.2.2.2.2.2.2.2.2.1
theorem dX11_numberHere_17 : decode cX11_numberHere 17 = .ok (.iconst 0, 1) := gdX11_numberHere_0.2.2.2.2.2.2.2.2.2.1
theorem dX11_numberHere_18 : decode cX11_numberHere 18 = .ok (.aload_n 0, 1) := gdX11_numberHere_0.2.2.2.2.2.2.2.2.2.2.1
theorem dX11_numberHere_19 : decode cX11_numberHere 19 = .ok (.getfield 103, 3) := gdX11_numberHere_0.2.2.2.2.2.2.2.2.2.2.2.1
theorem dX11_numberHere_22 : decode cX11_numberHere 22 = .ok (.invokevirtual 124, 3) := gdX11_numberHere_0.2.2.2.2.2.2.2.2.2.2.2.2.1
theorem dX11_numberHere_25 : decode cX11_numberHere 25 = .ok (.ireturn, 1) := gdX11_numberHere_0.2.2.2.2.2.2.2.2.2.2.2.2.2.1
theorem dX11_numberHere_26 : decode cX11_numberHere 26 = .ok (.aload_n 0, 1) := gdX11_numberHere_0.2.2.2.2.2.2.2.2.2.2.2.2.2.2.1
theorem dX11_numberHere_27 : decode cX11_numberHere 27 = .ok (.getfield 103, 3) := gdX11_numberHere_0.2.2.2.2.2.2.2.2.2.2.2.2.2.2.2
theorem gdX11_numberHere_30 : (decode cX11_numberHere 30 = .ok (.istore_n 3, 1)) ∧ (decode cX11_numberHere 31 = .ok (.iconst 0, 1)) ∧ (decode cX11_numberHere 32 = .ok (.istore 4, 2)) ∧ (decode cX11_numberHere 34 = .ok (.aload_n 0, 1)) ∧ (decode cX11_numberHere 35 = .ok (.aload_n 0, 1)) ∧ (decode cX11_numberHere 36 = .ok (.getfield 103, 3)) ∧ (decode cX11_numberHere 39 = .ok (.invokevirtual 121, 3)) ∧ (decode cX11_numberHere 42 = .ok (.ifCond .eq 46, 3)) ∧ (decode cX11_numberHere 45 = .ok (.aload_n 0, 1)) ∧ (decode cX11_numberHere 46 = .ok (.getfield 103, 3)) ∧ (decode cX11_numberHere 49 = .ok (.iload_n 3, 1)) ∧ (decode cX11_numberHere 50 = .ok (.isub, 1)) ∧ (decode cX11_numberHere 51 = .ok (.iconst 5, 1)) ∧ (decode cX11_numberHere 52 = .ok (.if_icmp .ge 23, 3)) ∧ (decode cX11_numberHere 55 = .ok (.bipush 10, 2)) ∧ (decode cX11_numberHere 57 = .ok (.iload 4, 2)) := by decide +kernel
theorem dX11_numberHere_30 : decode cX11_numberHere 30 = .ok (.istore_n 3, 1) := gdX11_numberHere_30.1
theorem dX11_numberHere_31 : decode cX11_numberHere 31 = .ok (.iconst 0, 1) := gdX11_numberHere_30.2.1
theorem dX11_numberHere_32 : decode cX11_numberHere 32 = .ok (.istore 4, 2) := gdX11_numberHere_30.2.2.1
theorem dX11_numberHere_34 : decode cX11_numberHere 34 = .ok (.aload_n 0, 1) := gdX11_numberHere_30.2.2.2.1
theorem dX11_numberHere_35 : decode cX11_numberHere 35 = .ok (.aload_n 0, 1) := gdX11_numberHere_30.2.2.2.2.1
theorem dX11_numberHere_36 : decode cX11_numberHere 36 = .ok (.getfield 103, 3) := gdX11_numberHere_30.2.2.2.2.2.1
theorem dX11_numberHere_39 : decode cX11_numberHere 39 = .ok (.invokevirtual 121, 3) := gdX11_numberHere_30.2.2.2.2.2.2.1
theorem dX11_numberHere_42 : decode cX11_numberHere 42 = .ok (.ifCond .eq 46, 3) := gdX11_numberHere_30.2.2.2.2.2.2.2.1
theorem dX11_numberHere_45 : decode cX11_numberHere 45 = .ok (.aload_n 0, 1) := gdX11_numberHere_30.2.2.2.2.2.2.2.2.1
theorem dX11_numberHere_46 : decode cX11_numberHere 46 = .ok (.getfield 103, 3) := gdX11_numberHere_30.2.2.2.2.2.2.2.2.2.1
theorem dX11_numberHere_49 : decode cX11_numberHere 49 = .ok (.iload_n 3, 1) := gdX11_numberHere_30.2.2.2.2.2.2.2.2.2.2.1
theorem dX11_numberHere_50 : decode cX11_numberHere 50 = .ok (.isub, 1) := gdX11_numberHere_30.2.2.2.2.2.2.2.2.2.2.2.1
theorem dX11_numberHere_51 : decode cX11_numberHere 51 = .ok (.iconst 5, 1) := gdX11_numberHere_30.2.2.2.2.2.2.2.2.2.2.2.2.1
theorem dX11_numberHere_52 : decode cX11_numberHere 52 = .ok (.if_icmp .ge 23, 3) := gdX11_numberHere_30.2.2.2.2.2.2.2.2.2.2.2.2.2.1
theorem dX11_numberHere_55 : decode cX11_numberHere 55 = .ok (.bipush 10, 2) := gdX11_numberHere_30.2.2.2.2.2.2.2.2.2.2.2.2.2.2.1
theorem dX11_numberHere_57 : decode cX11_numberHere 57 = .ok (.iload 4, 2) := gdX11_numberHere_30.2.2.2.2.2.2.2.2.2.2.2.2.2.2.2
theorem gdX11_numberHere_59 : (decode cX11_numberHere 59 = .ok (.imul, 1)) ∧ (decode cX11_numberHere 60 = .ok (.aload_n 0, 1)) ∧ (decode cX11_numberHere 61 = .ok (.getfield 7, 3)) ∧ (decode cX11_numberHere 64 = .ok (.aload_n 0, 1)) ∧ (decode cX11_numberHere 65 = .ok (.getfield 103, 3)) ∧ (decode cX11_numberHere 68 = .ok (.baload, 1)) ∧ (decode cX11_numberHere 69 = .ok (.iadd, 1)) ∧ (decode cX11_numberHere 70 = .ok (.bipush 48, 2)) ∧ (decode cX11_numberHere 72 = .ok (.isub, 1)) ∧ (decode cX11_numberHere 73 = .ok (.istore 4, 2)) ∧ (decode cX11_numberHere 75 = .ok (.aload_n 0, 1)) ∧ (decode cX11_numberHere 76 = .ok (.dup, 1)) ∧ (decode cX11_numberHere 77 = .ok (.getfield 103, 3)) ∧ (decode cX11_numberHere 80 = .ok (.iconst 1, 1)) ∧ (decode cX11_numberHere 81 = .ok (.iadd, 1)) ∧ (decode cX11_numberHere 82 = .ok (.putfield 103, 3)) := by decide +kernel
theorem dX11_numberHere_59 : decode cX11_numberHere 59 = .ok (.imul, 1) := gdX11_numberHere_59.1
theorem dX11_numberHere_60 : decode cX11_numberHere 60 = .ok (.aload_n 0, 1) := gdX11_numberHere_59.2.1
theorem dX11_numberHere_61 : decode cX11_numberHere 61 = .ok (.getfield 7, 3) := gdX11_numberHere_59.2.2.1
theorem dX11_numberHere_64 : decode cX11_numberHere 64 = .ok (.aload_n 0, 1) := gdX11_numberHere_59.2.2.2.1
theorem dX11_numberHere_65 : decode cX11_numberHere 65 = .ok (.getfield 103, 3) := gdX11_numberHere_59.2.2.2.2.1
theorem dX11_numberHere_68 : decode cX11_numberHere 68 = .ok (.baload, 1) := gdX11_numberHere_59.2.2.2.2.2.1
theorem dX11_numberHere_69 : decode cX11_numberHere 69 = .ok (.iadd, 1) := gdX11_numberHere_59.2.2.2.2.2.2.1
theorem dX11_numberHere_70 : decode cX11_numberHere 70 = .ok (.bipush 48, 2) := gdX11_numberHere_59.2.2.2.2.2.2.2.1
theorem dX11_numberHere_72 : decode cX11_numberHere 72 = .ok (.isub, 1) := gdX11_numberHere_59.2.2.2.2.2.2.2.2.1
theorem dX11_numberHere_73 : decode cX11_numberHere 73 = .ok (.istore 4, 2) := gdX11_numberHere_59.2.2.2.2.2.2.2.2.2.1
theorem dX11_numberHere_75 : decode cX11_numberHere 75 = .ok (.aload_n 0, 1) := gdX11_numberHere_59.2.2.2.2.2.2.2.2.2.2.1
theorem dX11_numberHere_76 : decode cX11_numberHere 76 = .ok (.dup, 1) := gdX11_numberHere_59.2.2.2.2.2.2.2.2.2.2.2.1
theorem dX11_numberHere_77 : decode cX11_numberHere 77 = .ok (.getfield 103, 3) := gdX11_numberHere_59.2.2.2.2.2.2.2.2.2.2.2.2.1
theorem dX11_numberHere_80 : decode cX11_numberHere 80 = .ok (.iconst 1, 1) := gdX11_numberHere_59.2.2.2.2.2.2.2.2.2.2.2.2.2.1
theorem dX11_numberHere_81 : decode cX11_numberHere 81 = .ok (.iadd, 1) := gdX11_numberHere_59.2.2.2.2.2.2.2.2.2.2.2.2.2.2.1
theorem dX11_numberHere_82 : decode cX11_numberHere 82 = .ok (.putfield 103, 3) := gdX11_numberHere_59.2.2.2.2.2.2.2.2.2.2.2.2.2.2.2
theorem gdX11_numberHere_85 : (decode cX11_numberHere 85 = .ok (.goto (-51), 3)) ∧ (decode cX11_numberHere 88 = .ok (.aload_n 0, 1)) ∧ (decode cX11_numberHere 89 = .ok (.iload 4, 2)) ∧ (decode cX11_numberHere 91 = .ok (.putfield 128, 3)) ∧ (decode cX11_numberHere 94 = .ok (.aload_n 0, 1)) ∧ (decode cX11_numberHere 95 = .ok (.getfield 103, 3)) ∧ (decode cX11_numberHere 98 = .ok (.iload_n 3, 1)) ∧ (decode cX11_numberHere 99 = .ok (.isub, 1)) ∧ (decode cX11_numberHere 100 = .ok (.iconst 5, 1)) ∧ (decode cX11_numberHere 101 = .ok (.if_icmp .gt 16, 3)) ∧ (decode cX11_numberHere 104 = .ok (.iload 4, 2)) ∧ (decode cX11_numberHere 106 = .ok (.i2l, 1)) ∧ (decode cX11_numberHere 107 = .ok (.iload_n 1, 1)) ∧ (decode cX11_numberHere 108 = .ok (.i2l, 1)) ∧ (decode cX11_numberHere 109 = .ok (.iload_n 2, 1)) ∧ (decode cX11_numberHere 110 = .ok (.i2l, 1)) := by decide +kernel
theorem dX11_numberHere_85 : decode cX11_numberHere 85 = .ok (.goto (-51), 3) := gdX11_numberHere_85.1
theorem dX11_numberHere_88 : decode cX11_numberHere 88 = .ok (.aload_n 0, 1) := gdX11_numberHere_85.2.1
theorem dX11_numberHere_89 : decode cX11_numberHere 89 = .ok (.iload 4, 2) := gdX11_numberHere_85.2.2.1
theorem dX11_numberHere_91 : decode cX11_numberHere 91 = .ok (.putfield 128, 3) := gdX11_numberHere_85.2.2.2.1
theorem dX11_numberHere_94 : decode cX11_numberHere 94 = .ok (.aload_n 0, 1) := gdX11_numberHere_85.2.2.2.2.1
theorem dX11_numberHere_95 : decode cX11_numberHere 95 = .ok (.getfield 103, 3) := gdX11_numberHere_85.2.2.2.2.2.1
theorem dX11_numberHere_98 : decode cX11_numberHere 98 = .ok (.iload_n 3, 1) := gdX11_numberHere_85.2.2.2.2.2.2.1
theorem dX11_numberHere_99 : decode cX11_numberHere 99 = .ok (.isub, 1) := gdX11_numberHere_85.2.2.2.2.2.2.2.1
theorem dX11_numberHere_100 : decode cX11_numberHere 100 = .ok (.iconst 5, 1) := gdX11_numberHere_85.2.2.2.2.2.2.2.2.1
theorem dX11_numberHere_101 : decode cX11_numberHere 101 = .ok (.if_icmp .gt 16, 3) := gdX11_numberHere_85.2.2.2.2.2.2.2.2.2.1
theorem dX11_numberHere_104 : decode cX11_numberHere 104 = .ok (.iload 4, 2) := gdX11_numberHere_85.2.2.2.2.2.2.2.2.2.2.1
theorem dX11_numberHere_106 : decode cX11_numberHere 106 = .ok (.i2l, 1) := gdX11_numberHere_85.2.2.2.2.2.2.2.2.2.2.2.1
theorem dX11_numberHere_107 : decode cX11_numberHere 107 = .ok (.iload_n 1, 1) := gdX11_numberHere_85.2.2.2.2.2.2.2.2.2.2.2.2.1
theorem dX11_numberHere_108 : decode cX11_numberHere 108 = .ok (.i2l, 1) := gdX11_numberHere_85.2.2.2.2.2.2.2.2.2.2.2.2.2.1
theorem dX11_numberHere_109 : decode cX11_numberHere 109 = .ok (.iload_n 2, 1) := gdX11_numberHere_85.2.2.2.2.2.2.2.2.2.2.2.2.2.2.1
theorem dX11_numberHere_110 : decode cX11_numberHere 110 = .ok (.i2l, 1) := gdX11_numberHere_85.2.2.2.2.2.2.2.2.2.2.2.2.2.2.2
theorem gdX11_numberHere_111 : (decode cX11_numberHere 111 = .ok (.invokestatic 131, 3)) ∧ (decode cX11_numberHere 114 = .ok (.ifCond .ne 12, 3)) ∧ (decode cX11_numberHere 117 = .ok (.aload_n 0, 1)) ∧ (decode cX11_numberHere 118 = .ok (.iconst 1, 1)) ∧ (decode cX11_numberHere 119 = .ok (.iload_n 3, 1)) ∧ (decode cX11_numberHere 120 = .ok (.invokevirtual 124, 3)) ∧ (decode cX11_numberHere 123 = .ok (.ifCond .eq 7, 3)) ∧ (decode cX11_numberHere 126 = .ok (.iconst 1, 1)) ∧ (decode cX11_numberHere 127 = .ok (.goto 4, 3)) ∧ (decode cX11_numberHere 130 = .ok (.iconst 0, 1)) ∧ (decode cX11_numberHere 131 = .ok (.ireturn, 1)) := by decide +kernel
theorem dX11_numberHere_111 : decode cX11_numberHere 111 = .ok (.invokestatic 131, 3) := gdX11_numberHere_111.1
theorem dX11_numberHere_114 : decode cX11_numberHere 114 = .ok (.ifCond .ne 12, 3) := gdX11_numberHere_111.2.1
theorem dX11_numberHere_117 : decode cX11_numberHere 117 = .ok (.aload_n 0, 1) := gdX11_numberHere_111.2.2.1
theorem dX11_numberHere_118 : decode cX11_numberHere 118 = .ok (.iconst 1, 1) := gdX11_numberHere_111.2.2.2.1
theorem dX11_numberHere_119 : decode cX11_numberHere 119 = .ok (.iload_n 3, 1) := gdX11_numberHere_111.2.2.2.2.1
theorem dX11_numberHere_120 : decode cX11_numberHere 120 = .ok (.invokevirtual 124, 3) := gdX11_numberHere_111.2.2.2.2.2.1
theorem dX11_numberHere_123 : decode cX11_numberHere 123 = .ok (.ifCond .eq 7, 3) := gdX11_numberHere_111.2.2.2.2.2.2.1
theorem dX11_numberHere_126 : decode cX11_numberHere 126 = .ok (.iconst 1, 1) := gdX11_numberHere_111.2.2.2.2.2.2.2.1
theorem dX11_numberHere_127 : decode cX11_numberHere 127 = .ok (.goto 4, 3) := gdX11_numberHere_111.2.2.2.2.2.2.2.2.1
theorem dX11_numberHere_130 : decode cX11_numberHere 130 = .ok (.iconst 0, 1) := gdX11_numberHere_111.2.2.2.2.2.2.2.2.2.1
theorem dX11_numberHere_131 : decode cX11_numberHere 131 = .ok (.ireturn, 1) := gdX11_numberHere_111.2.2.2.2.2.2.2.2.2.2
theorem gdX11_wordHere_0 : (decode cX11_wordHere 0 = .ok (.aload_n 0, 1)) ∧ (decode cX11_wordHere 1 = .ok (.ldc2_w 135, 3)) ∧ (decode cX11_wordHere 4 = .ok (.invokevirtual 114, 3)) ∧ (decode cX11_wordHere 7 = .ok (.ifCond .eq 5, 3)) ∧ (decode cX11_wordHere 10 = .ok (.iconst 0, 1)) ∧ (decode cX11_wordHere 11 = .ok (.ireturn, 1)) ∧ (decode cX11_wordHere 12 = .ok (.aload_n 0, 1)) ∧ (decode cX11_wordHere 13 = .ok (.ldc2_w 137, 3)) ∧ (decode cX11_wordHere 16 = .ok (.invokevirtual 114, 3)) ∧ (decode cX11_wordHere 19 = .ok (.ifCond .eq 5, 3)) ∧ (decode cX11_wordHere 22 = .ok (.iconst 1, 1)) ∧ (decode cX11_wordHere 23 = .ok (.ireturn, 1)) ∧ (decode cX11_wordHere 24 = .ok (.aload_n 0, 1)) ∧ (decode cX11_wordHere 25 = .ok (.ldc2_w 139, 3)) ∧ (decode cX11_wordHere 28 = .ok (.invokevirtual 114, 3)) ∧ (decode cX11_wordHere 31 = .ok (.ifCond .eq 5, 3)) := by decide +kernel
theorem dX11_wordHere_0 : decode cX11_wordHere 0 = .ok (.aload_n 0, 1) := gdX11_wordHere_0.1
theorem dX11_wordHere_1 : decode cX11_wordHere 1 = .ok (.ldc2_w 135, 3) := gdX11_wordHere_0.2.1
theorem dX11_wordHere_4 : decode cX11_wordHere 4 = .ok (.invokevirtual 114, 3) := gdX11_wordHere_0.2.2.1
theorem dX11_wordHere_7 : decode cX11_wordHere 7 = .ok (.ifCond .eq 5, 3) := gdX11_wordHere_0.2.2.2.1
theorem dX11_wordHere_10 : decode cX11_wordHere 10 = .ok (.iconst 0, 1) := gdX11_wordHere_0.2.2.2.2.1
theorem dX11_wordHere_11 : decode cX11_wordHere 11 = .ok (.ireturn, 1) := gdX11_wordHere_0.2.2.2.2.2.1
theorem dX11_wordHere_12 : decode cX11_wordHere 12 = .ok (.aload_n 0, 1) := gdX11_wordHere_0.2.2.2.2.2.2.1
theorem dX11_wordHere_13 : decode cX11_wordHere 13 = .ok (.ldc2_w 137, 3) := gdX11_wordHere_0.2.2.2.2.2.2.2.1
theorem dX11_wordHere_16 : decode cX11_wordHere 16 = .ok (.invokevirtual 114, 3) := gdX11_wordHere_0.2.2.2.2.2.2.2.2.1
theorem dX11_wordHere_19 : decode cX11_wordHere 19 = .ok (.ifCond .eq 5, 3) := gdX11_wordHere_0.2.2.2.2.2.2.2.2.2.1
theorem dX11_wordHere_22 : decode cX11_wordHere 22 = .ok (.iconst 1, 1) := gdX11_wordHere_0.2.2.2.2.2.2.2.2.2.2.1
theorem dX11_wordHere_23 : decode cX11_wordHere 23 = .ok (.ireturn, 1) := gdX11_wordHere_0.2.2.2.2.2.2.2.2.2.2.2.1
theorem dX11_wordHere_24 : decode cX11_wordHere 24 = .ok (.aload_n 0, 1) := gdX11_wordHere_0.2.2.2.2.2.2.2.2.2.2.2.2.1
theorem dX11_wordHere_25 : decode cX11_wordHere 25 = .ok (.ldc2_w 139, 3) := gdX11_wordHere_0.2.2.2.2.2.2.2.2.2.2.2.2.2.1
theorem dX11_wordHere_28 : decode cX11_wordHere 28 = .ok (.invokevirtual 114, 3) := gdX11_wordHere_0.2.2.2.2.2.2.2.2.2.2.2.2.2.2.1
theorem dX11_wordHere_31 : decode cX11_wordHere 31 = .ok (.ifCond .eq 5, 3) := gdX11_wordHere_0.2.2.2.2.2.2.2.2.2.2.2.2.2.2.2
theorem gdX11_wordHere_34 : (decode cX11_wordHere 34 = .ok (.iconst 2, 1)) ∧ (decode cX11_wordHere 35 = .ok (.ireturn, 1)) ∧ (decode cX11_wordHere 36 = .ok (.aload_n 0, 1)) ∧ (decode cX11_wordHere 37 = .ok (.ldc2_w 141, 3)) ∧ (decode cX11_wordHere 40 = .ok (.invokevirtual 114, 3)) ∧ (decode cX11_wordHere 43 = .ok (.ifCond .eq 5, 3)) ∧ (decode cX11_wordHere 46 = .ok (.iconst 3, 1)) ∧ (decode cX11_wordHere 47 = .ok (.ireturn, 1)) ∧ (decode cX11_wordHere 48 = .ok (.aload_n 0, 1)) ∧ (decode cX11_wordHere 49 = .ok (.ldc2_w 143, 3)) ∧ (decode cX11_wordHere 52 = .ok (.invokevirtual 114, 3)) ∧ (decode cX11_wordHere 55 = .ok (.ifCond .eq 5, 3)) ∧ (decode cX11_wordHere 58 = .ok (.iconst 4, 1)) ∧ (decode cX11_wordHere 59 = .ok (.ireturn, 1)) ∧ (decode cX11_wordHere 60 = .ok (.aload_n 0, 1)) ∧ (decode cX11_wordHere 61 = .ok (.ldc2_w 145, 3)) := by decide +kernel
theorem dX11_wordHere_34 : decode cX11_wordHere 34 = .ok (.iconst 2, 1) := gdX11_wordHere_34.1
theorem dX11_wordHere_35 : decode cX11_wordHere 35 = .ok (.ireturn, 1) := gdX11_wordHere_34.2.1
theorem dX11_wordHere_36 : decode cX11_wordHere 36 = .ok (.aload_n 0, 1) := gdX11_wordHere_34.2.2.1
theorem dX11_wordHere_37 : decode cX11_wordHere 37 = .ok (.ldc2_w 141, 3) := gdX11_wordHere_34.2.2.2.1
theorem dX11_wordHere_40 : decode cX11_wordHere 40 = .ok (.invokevirtual 114, 3) := gdX11_wordHere_34.2.2.2.2.1
theorem dX11_wordHere_43 : decode cX11_wordHere 43 = .ok (.ifCond .eq 5, 3) := gdX11_wordHere_34.2.2.2.2.2.1
theorem dX11_wordHere_46 : decode cX11_wordHere 46 = .ok (.iconst 3, 1) := gdX11_wordHere_34.2.2.2.2.2.2.1
theorem dX11_wordHere_47 : decode cX11_wordHere 47 = .ok (.ireturn, 1) := gdX11_wordHere_34.2.2.2.2.2.2.2.1
theorem dX11_wordHere_48 : decode cX11_wordHere 48 = .ok (.aload_n 0, 1) := gdX11_wordHere_34.2.2.2.2.2.2.2.2.1
theorem dX11_wordHere_49 : decode cX11_wordHere 49 = .ok (.ldc2_w 143, 3) := gdX11_wordHere_34.2.2.2.2.2.2.2.2.2.1
theorem dX11_wordHere_52 : decode cX11_wordHere 52 = .ok (.invokevirtual 114, 3) := gdX11_wordHere_34.2.2.2.2.2.2.2.2.2.2.1
theorem dX11_wordHere_55 : decode cX11_wordHere 55 = .ok (.ifCond .eq 5, 3) := gdX11_wordHere_34.2.2.2.2.2.2.2.2.2.2.2.1
theorem dX11_wordHere_58 : decode cX11_wordHere 58 = .ok (.iconst 4, 1) := gdX11_wordHere_34.2.2.2.2.2.2.2.2.2.2.2.2.1
theorem dX11_wordHere_59 : decode cX11_wordHere 59 = .ok (.ireturn, 1) := gdX11_wordHere_34.2.2.2.2.2.2.2.2.2.2.2.2.2.1
theorem dX11_wordHere_60 : decode cX11_wordHere 60 = .ok (.aload_n 0, 1) := gdX11_wordHere_34.2.2.2.2.2.2.2.2.2.2.2.2.2.2.1
theorem dX11_wordHere_61 : decode cX11_wordHere 61 = .ok (.ldc2_w 145, 3) := gdX11_wordHere_34.2.2.2.2.2.2.2.2.2.2.2.2.2.2.2
theorem gdX11_wordHere_64 : (decode cX11_wordHere 64 = .ok (.invokevirtual 114, 3)) ∧ (decode cX11_wordHere 67 = .ok (.ifCond .eq 5, 3)) ∧ (decode cX11_wordHere 70 = .ok (.iconst 5, 1)) ∧ (decode cX11_wordHere 71 = .ok (.ireturn, 1)) ∧ (decode cX11_wordHere 72 = .ok (.aload_n 0, 1)) ∧ (decode cX11_wordHere 73 = .ok (.ldc2_w 147, 3)) ∧ (decode cX11_wordHere 76 = .ok (.invokevirtual 114, 3)) ∧ (decode cX11_wordHere 79 = .ok (.ifCond .eq 8, 3)) ∧ (decode cX11_wordHere 82 = .ok (.bipush 6, 2)) ∧ (decode cX11_wordHere 84 = .ok (.goto 19, 3)) ∧ (decode cX11_wordHere 87 = .ok (.aload_n 0, 1)) ∧ (decode cX11_wordHere 88 = .ok (.ldc2_w 149, 3)) ∧ (decode cX11_wordHere 91 = .ok (.invokevirtual 114, 3)) ∧ (decode cX11_wordHere 94 = .ok (.ifCond .eq 8, 3)) ∧ (decode cX11_wordHere 97 = .ok (.bipush 7, 2)) ∧ (decode cX11_wordHere 99 = .ok (.goto 4, 3)) := by decide +kernel
theorem dX11_wordHere_64 : decode cX11_wordHere 64 = .ok (.invokevirtual 114, 3) := gdX11_wordHere_64.1
theorem dX11_wordHere_67 : decode cX11_wordHere 67 = .ok (.ifCond .eq 5, 3) := gdX11_wordHere_64.2.1
theorem dX11_wordHere_70 : decode cX11_wordHere 70 = .ok (.iconst 5, 1) := gdX11_wordHere_64.2.2.1
theorem dX11_wordHere_71 : decode cX11_wordHere 71 = .ok (.ireturn, 1) := gdX11_wordHere_64.2.2.2.1
theorem dX11_wordHere_72 : decode cX11_wordHere 72 = .ok (.aload_n 0, 1) := gdX11_wordHere_64.2.2.2.2.1
theorem dX11_wordHere_73 : decode cX11_wordHere 73 = .ok (.ldc2_w 147, 3) := gdX11_wordHere_64.2.2.2.2.2.1
theorem dX11_wordHere_76 : decode cX11_wordHere 76 = .ok (.invokevirtual 114, 3) := gdX11_wordHere_64.2.2.2.2.2.2.1
theorem dX11_wordHere_79 : decode cX11_wordHere 79 = .ok (.ifCond .eq 8, 3) := gdX11_wordHere_64.2.2.2.2.2.2.2.1
theorem dX11_wordHere_82 : decode cX11_wordHere 82 = .ok (.bipush 6, 2) := gdX11_wordHere_64.2.2.2.2.2.2.2.2.1
theorem dX11_wordHere_84 : decode cX11_wordHere 84 = .ok (.goto 19, 3) := gdX11_wordHere_64.2.2.2.2.2.2.2.2.2.1
theorem dX11_wordHere_87 : decode cX11_wordHere 87 = .ok (.aload_n 0, 1) := gdX11_wordHere_64.2.2.2.2.2.2.2.2.2.2.1
theorem dX11_wordHere_88 : decode cX11_wordHere 88 = .ok (.ldc2_w 149, 3) := gdX11_wordHere_64.2.2.2.2.2.2.2.2.2.2.2.1
theorem dX11_wordHere_91 : decode cX11_wordHere 91 = .ok (.invokevirtual 114, 3) := gdX11_wordHere_64.2.2.2.2.2.2.2.2.2.2.2.2.1
theorem dX11_wordHere_94 : decode cX11_wordHere 94 = .ok (.ifCond .eq 8, 3) := gdX11_wordHere_64.2.2.2.2.2.2.2.2.2.2.2.2.2.1
theorem dX11_wordHere_97 : decode cX11_wordHere 97 = .ok (.bipush 7, 2) := gdX11_wordHere_64.2.2.2.2.2.2.2.2.2.2.2.2.2.2.1
theorem dX11_wordHere_99 : decode cX11_wordHere 99 = .ok (.goto 4, 3) := gdX11_wordHere_64.2.2.2.2.2.2.2.2.2.2.2.2.2.2.2
theorem gdX11_wordHere_102 : (decode cX11_wordHere 102 = .ok (.iconst (-1), 1)) ∧ (decode cX11_wordHere 103 = .ok (.ireturn, 1)) := by decide +kernel
theorem dX11_wordHere_102 : decode cX11_wordHere 102 = .ok (.iconst (-1), 1) := gdX11_wordHere_102.1
theorem dX11_wordHere_103 : decode cX11_wordHere 103 = .ok (.ireturn, 1) := gdX11_wordHere_102.2
theorem gdX11_puts_0 : (decode cX11_puts 0 = .ok (.aload_n 0, 1)) ∧ (decode cX11_puts 1 = .ok (.getfield 13, 3)) ∧ (decode cX11_puts 4 = .ok (.sipush 400, 3)) ∧ (decode cX11_puts 7 = .ok (.aload_n 0, 1)) ∧ (decode cX11_puts 8 = .ok (.getfield 151, 3)) ∧ (decode cX11_puts 11 = .ok (.imul, 1)) ∧ (decode cX11_puts 12 = .ok (.aload_n 0, 1)) ∧ (decode cX11_puts 13 = .ok (.getfield 17, 3)) ∧ (decode cX11_puts 16 = .ok (.aload_n 0, 1)) ∧ (decode cX11_puts 17 = .ok (.getfield 151, 3)) ∧ (decode cX11_puts 20 = .ok (.iaload, 1)) ∧ (decode cX11_puts 21 = .ok (.iadd, 1)) ∧ (decode cX11_puts 22 = .ok (.iload_n 1, 1)) ∧ (decode cX11_puts 23 = .ok (.bipush 16, 2)) ∧ (decode cX11_puts 25 = .ok (.iload_n 2, 1)) ∧ (decode cX11_puts 26 = .ok (.imul, 1)) := by decide +kernel
theorem dX11_puts_0 : decode cX11_puts 0 = .ok (.aload_n 0, 1) := gdX11_puts_0.1
theorem dX11_puts_1 : decode cX11_puts 1 = .ok (.getfield 13, 3) := gdX11_puts_0.2.1
theorem dX11_puts_4 : decode cX11_puts 4 = .ok (.sipush 400, 3) := gdX11_puts_0.2.2.1
theorem dX11_puts_7 : decode cX11_puts 7 = .ok (.aload_n 0, 1) := gdX11_puts_0.2.2.2.1
theorem dX11_puts_8 : decode cX11_puts 8 = .ok (.getfield 151, 3) := gdX11_puts_0.2.2.2.2.1
theorem dX11_puts_11 : decode cX11_puts 11 = .ok (.imul, 1) := gdX11_puts_0.2.2.2.2.2.1
theorem dX11_puts_12 : decode cX11_puts 12 = .ok (.aload_n 0, 1) := gdX11_puts_0.2.2.2.2.2.2.1
theorem dX11_puts_13 : decode cX11_puts 13 = .ok (.getfield 17, 3) := gdX11_puts_0.2.2.2.2.2.2.2.1
theorem dX11_puts_16 : decode cX11_puts 16 = .ok (.aload_n 0, 1) := gdX11_puts_0.2.2.2.2.2.2.2.2.1
theorem dX11_puts_17 : decode cX11_puts 17 = .ok (.getfield 151, 3) := gdX11_puts_0.2.2.2.2.2.2.2.2.2.1
theorem dX11_puts_20 : decode cX11_puts 20 = .ok (.iaload, 1) := gdX11_puts_0.2.2.2.2.2.2.2.2.2.2.1
theorem dX11_puts_21 : decode cX11_puts 21 = .ok (.iadd, 1) := gdX11_puts_0.2.2.2.2.2.2.2.2.2.2.2.1
theorem dX11_puts_22 : decode cX11_puts 22 = .ok (.iload_n 1, 1) := gdX11_puts_0.2.2.2.2.2.2.2.2.2.2.2.2.1
theorem dX11_puts_23 : decode cX11_puts 23 = .ok (.bipush 16, 2) := gdX11_puts_0.2.2.2.2.2.2.2.2.2.2.2.2.2.1
theorem dX11_puts_25 : decode cX11_puts 25 = .ok (.iload_n 2, 1) := gdX11_puts_0.2.2.2.2.2.2.2.2.2.2.2.2.2.2.1
theorem dX11_puts_26 : decode cX11_puts 26 = .ok (.imul, 1) := gdX11_puts_0.2.2.2.2.2.2.2.2.2.2.2.2.2.2.2
theorem gdX11_puts_27 : (decode cX11_puts 27 = .ok (.iadd, 1)) ∧ (decode cX11_puts 28 = .ok (.iastore, 1)) ∧ (decode cX11_puts 29 = .ok (.aload_n 0, 1)) ∧ (decode cX11_puts 30 = .ok (.getfield 17, 3)) ∧ (decode cX11_puts 33 = .ok (.aload_n 0, 1)) ∧ (decode cX11_puts 34 = .ok (.getfield 151, 3)) ∧ (decode cX11_puts 37 = .ok (.dup2, 1)) ∧ (decode cX11_puts 38 = .ok (.iaload, 1)) ∧ (decode cX11_puts 39 = .ok (.iconst 1, 1)) ∧ (decode cX11_puts 40 = .ok (.iadd, 1)) ∧ (decode cX11_puts 41 = .ok (.iastore, 1)) ∧ (decode cX11_puts 42 = .ok (.return_, 1)) := by decide +kernel
theorem dX11_puts_27 : decode cX11_puts 27 = .ok (.iadd, 1) := gdX11_puts_27.1
theorem dX11_puts_28 : decode cX11_puts 28 = .ok (.iastore, 1) := gdX11_puts_27.2.1
theorem dX11_puts_29 : decode cX11_puts 29 = .ok (.aload_n 0, 1) := gdX11_puts_27.2.2.1
theorem dX11_puts_30 : decode cX11_puts 30 = .ok (.getfield 17, 3) := gdX11_puts_27.2.2.2.1
theorem dX11_puts_33 : decode cX11_puts 33 = .ok (.aload_n 0, 1) := gdX11_puts_27.2.2.2.2.1
theorem dX11_puts_34 : decode cX11_puts 34 = .ok (.getfield 151, 3) := gdX11_puts_27.2.2.2.2.2.1
theorem dX11_puts_37 : decode cX11_puts 37 = .ok (.dup2, 1) := gdX11_puts_27.2.2.2.2.2.2.1
theorem dX11_puts_38 : decode cX11_puts 38 = .ok (.iaload, 1) := gdX11_puts_27.2.2.2.2.2.2.2.1
theorem dX11_puts_39 : decode cX11_puts 39 = .ok (.iconst 1, 1) := gdX11_puts_27.2.2.2.2.2.2.2.2.1
theorem dX11_puts_40 : decode cX11_puts 40 = .ok (.iadd, 1) := gdX11_puts_27.2.2.2.2.2.2.2.2.2.1
theorem dX11_puts_41 : decode cX11_puts 41 = .ok (.iastore, 1) := gdX11_puts_27.2.2.2.2.2.2.2.2.2.2.1
theorem dX11_puts_42 : decode cX11_puts 42 = .ok (.return_, 1) := gdX11_puts_27.2.2.2.2.2.2.2.2.2.2.2
theorem gdX11_makes_0 : (decode cX11_makes 0 = .ok (.aload_n 0, 1)) ∧ (decode cX11_makes 1 = .ok (.getfield 154, 3)) ∧ (decode cX11_makes 4 = .ok (.bipush 60, 2)) ∧ (decode cX11_makes 6 = .ok (.if_icmp .ne 10, 3)) ∧ (decode cX11_makes 9 = .ok (.aload_n 0, 1)) ∧ (decode cX11_makes 10 = .ok (.iconst 3, 1)) ∧ (decode cX11_makes 11 = .ok (.iload_n 1, 1)) ∧ (decode cX11_makes 12 = .ok (.invokevirtual 124, 3)) ∧ (decode cX11_makes 15 = .ok (.ireturn, 1)) ∧ (decode cX11_makes 16 = .ok (.aload_n 0, 1)) ∧ (decode cX11_makes 17 = .ok (.dup, 1)) ∧ (decode cX11_makes 18 = .ok (.getfield 154, 3)) ∧ (decode cX11_makes 21 = .ok (.iconst 1, 1)) ∧ (decode cX11_makes 22 = .ok (.iadd, 1)) ∧ (decode cX11_makes 23 = .ok (.putfield 154, 3)) ∧ (decode cX11_makes 26 = .ok (.iconst 1, 1)) := by decide +kernel
theorem dX11_makes_0 : decode cX11_makes 0 = .ok (.aload_n 0, 1) := gdX11_makes_0.1
theorem dX11_makes_1 : decode cX11_makes 1 = .ok (.getfield 154, 3) := gdX11_makes_0.2.1
theorem dX11_makes_4 : decode cX11_makes 4 = .ok (.bipush 60, 2) := gdX11_makes_0.2.2.1
theorem dX11_makes_6 : decode cX11_makes 6 = .ok (.if_icmp .ne 10, 3) := gdX11_makes_0.2.2.2.1
theorem dX11_makes_9 : decode cX11_makes 9 = .ok (.aload_n 0, 1) := gdX11_makes_0.2.2.2.2.1
theorem dX11_makes_10 : decode cX11_makes 10 = .ok (.iconst 3, 1) := gdX11_makes_0.2.2.2.2.2.1
theorem dX11_makes_11 : decode cX11_makes 11 = .ok (.iload_n 1, 1) := gdX11_makes_0.2.2.2.2.2.2.1
theorem dX11_makes_12 : decode cX11_makes 12 = .ok (.invokevirtual 124, 3) := gdX11_makes_0.2.2.2.2.2.2.2.1
theorem dX11_makes_15 : decode cX11_makes 15 = .ok (.ireturn, 1) := gdX11_makes_0.2.2.2.2.2.2.2.2.1
theorem dX11_makes_16 : decode cX11_makes 16 = .ok (.aload_n 0, 1) := gdX11_makes_0.2.2.2.2.2.2.2.2.2.1
theorem dX11_makes_17 : decode cX11_makes 17 = .ok (.dup, 1) := gdX11_makes_0.2.2.2.2.2.2.2.2.2.2.1
theorem dX11_makes_18 : decode cX11_makes 18 = .ok (.getfield 154, 3) := gdX11_makes_0.2.2.2.2.2.2.2.2.2.2.2.1
theorem dX11_makes_21 : decode cX11_makes 21 = .ok (.iconst 1, 1) := gdX11_makes_0.2.2.2.2.2.2.2.2.2.2.2.2.1
theorem dX11_makes_22 : decode cX11_makes 22 = .ok (.iadd, 1) := gdX11_makes_0.2.2.2.2.2.2.2.2.2.2.2.2.2.1
theorem dX11_makes_23 : decode cX11_makes 23 = .ok (.putfield 154, 3) := gdX11_makes_0.2.2.2.2.2.2.2.2.2.2.2.2.2.2.1
theorem dX11_makes_26 : decode cX11_makes 26 = .ok (.iconst 1, 1) := gdX11_makes_0.2.2.2.2.2.2.2.2.2.2.2.2.2.2.2
theorem dX11_makes_27 : decode cX11_makes 27 = .ok (.ireturn, 1) := by decide +kernel
theorem gdX11_opens_0 : (decode cX11_opens 0 = .ok (.aload_n 0, 1)) ∧ (decode cX11_opens 1 = .ok (.getfield 157, 3)) ∧ (decode cX11_opens 4 = .ok (.bipush 10, 2)) ∧ (decode cX11_opens 6 = .ok (.if_icmp .ne 13, 3)) ∧ (decode cX11_opens 9 = .ok (.aload_n 0, 1)) ∧ (decode cX11_opens 10 = .ok (.iconst 2, 1)) ∧ (decode cX11_opens 11 = .ok (.aload_n 0, 1)) ∧ (decode cX11_opens 12 = .ok (.getfield 103, 3)) ∧ (decode cX11_opens 15 = .ok (.invokevirtual 124, 3)) ∧ (decode cX11_opens 18 = .ok (.ireturn, 1)) ∧ (decode cX11_opens 19 = .ok (.aload_n 0, 1)) ∧ (decode cX11_opens 20 = .ok (.dup, 1)) ∧ (decode cX11_opens 21 = .ok (.getfield 157, 3)) ∧ (decode cX11_opens 24 = .ok (.iconst 1, 1)) ∧ (decode cX11_opens 25 = .ok (.iadd, 1)) ∧ (decode cX11_opens 26 = .ok (.putfield 157, 3)) := by decide +kernel
theorem dX11_opens_0 : decode cX11_opens 0 = .ok (.aload_n 0, 1) := gdX11_opens_0.1
theorem dX11_opens_1 : decode cX11_opens 1 = .ok (.getfield 157, 3) := gdX11_opens_0.2.1
theorem dX11_opens_4 : decode cX11_opens 4 = .ok (.bipush 10, 2) := gdX11_opens_0.2.2.1
theorem dX11_opens_6 : decode cX11_opens 6 = .ok (.if_icmp .ne 13, 3) := gdX11_opens_0.2.2.2.1
theorem dX11_opens_9 : decode cX11_opens 9 = .ok (.aload_n 0, 1) := gdX11_opens_0.2.2.2.2.1
theorem dX11_opens_10 : decode cX11_opens 10 = .ok (.iconst 2, 1) := gdX11_opens_0.2.2.2.2.2.1
theorem dX11_opens_11 : decode cX11_opens 11 = .ok (.aload_n 0, 1) := gdX11_opens_0.2.2.2.2.2.2.1
theorem dX11_opens_12 : decode cX11_opens 12 = .ok (.getfield 103, 3) := gdX11_opens_0.2.2.2.2.2.2.2.1
theorem dX11_opens_15 : decode cX11_opens 15 = .ok (.invokevirtual 124, 3) := gdX11_opens_0.2.2.2.2.2.2.2.2.1
theorem dX11_opens_18 : decode cX11_opens 18 = .ok (.ireturn, 1) := gdX11_opens_0.2.2.2.2.2.2.2.2.2.1
theorem dX11_opens_19 : decode cX11_opens 19 = .ok (.aload_n 0, 1) := gdX11_opens_0.2.2.2.2.2.2.2.2.2.2.1
theorem dX11_opens_20 : decode cX11_opens 20 = .ok (.dup, 1) := gdX11_opens_0.2.2.2.2.2.2.2.2.2.2.2.1
theorem dX11_opens_21 : decode cX11_opens 21 = .ok (.getfield 157, 3) := gdX11_opens_0.2.2.2.2.2.2.2.2.2.2.2.2.1
theorem dX11_opens_24 : decode cX11_opens 24 = .ok (.iconst 1, 1) := gdX11_opens_0.2.2.2.2.2.2.2.2.2.2.2.2.2.1
theorem dX11_opens_25 : decode cX11_opens 25 = .ok (.iadd, 1) := gdX11_opens_0.2.2.2.2.2.2.2.2.2.2.2.2.2.2.1
theorem dX11_opens_26 : decode cX11_opens 26 = .ok (.putfield 157, 3) := gdX11_opens_0.2.2.2.2.2.2.2.2.2.2.2.2.2.2.2
theorem gdX11_opens_29 : (decode cX11_opens 29 = .ok (.aload_n 0, 1)) ∧ (decode cX11_opens 30 = .ok (.getfield 35, 3)) ∧ (decode cX11_opens 33 = .ok (.aload_n 0, 1)) ∧ (decode cX11_opens 34 = .ok (.getfield 160, 3)) ∧ (decode cX11_opens 37 = .ok (.iload_n 1, 1)) ∧ (decode cX11_opens 38 = .ok (.iastore, 1)) ∧ (decode cX11_opens 39 = .ok (.aload_n 0, 1)) ∧ (decode cX11_opens 40 = .ok (.dup, 1)) ∧ (decode cX11_opens 41 = .ok (.getfield 160, 3)) ∧ (decode cX11_opens 44 = .ok (.iconst 1, 1)) ∧ (decode cX11_opens 45 = .ok (.iadd, 1)) ∧ (decode cX11_opens 46 = .ok (.putfield 160, 3)) ∧ (decode cX11_opens 49 = .ok (.iconst 1, 1)) ∧ (decode cX11_opens 50 = .ok (.ireturn, 1)) := by decide +kernel
theorem dX11_opens_29 : decode cX11_opens 29 = .ok (.aload_n 0, 1) := gdX11_opens_29.1
theorem dX11_opens_30 : decode cX11_opens 30 = .ok (.getfield 35, 3) := gdX11_opens_29.2.1
theorem dX11_opens_33 : decode cX11_opens 33 = .ok (.aload_n 0, 1) := gdX11_opens_29.2.2.1
theorem dX11_opens_34 : decode cX11_opens 34 = .ok (.getfield 160, 3) := gdX11_opens_29.2.2.2.1
theorem dX11_opens_37 : decode cX11_opens 37 = .ok (.iload_n 1, 1) := gdX11_opens_29.2.2.2.2.1
theorem dX11_opens_38 : decode cX11_opens 38 = .ok (.iastore, 1) := gdX11_opens_29.2.2.2.2.2.1
theorem dX11_opens_39 : decode cX11_opens 39 = .ok (.aload_n 0, 1) := gdX11_opens_29.2.2.2.2.2.2.1
theorem dX11_opens_40 : decode cX11_opens 40 = .ok (.dup, 1) := gdX11_opens_29.2.2.2.2.2.2.2.1
theorem dX11_opens_41 : decode cX11_opens 41 = .ok (.getfield 160, 3) := gdX11_opens_29.2.2.2.2.2.2.2.2.1
theorem dX11_opens_44 : decode cX11_opens 44 = .ok (.iconst 1, 1) := gdX11_opens_29.2.2.2.2.2.2.2.2.2.1
theorem dX11_opens_45 : decode cX11_opens 45 = .ok (.iadd, 1) := gdX11_opens_29.2.2.2.2.2.2.2.2.2.2.1
theorem dX11_opens_46 : decode cX11_opens 46 = .ok (.putfield 160, 3) := gdX11_opens_29.2.2.2.2.2.2.2.2.2.2.2.1
theorem dX11_opens_49 : decode cX11_opens 49 = .ok (.iconst 1, 1) := gdX11_opens_29.2.2.2.2.2.2.2.2.2.2.2.2.1
theorem dX11_opens_50 : decode cX11_opens 50 = .ok (.ireturn, 1) := gdX11_opens_29.2.2.2.2.2.2.2.2.2.2.2.2.2
theorem gdX11_strength_0 : (decode cX11_strength 0 = .ok (.iload_n 0, 1)) ∧ (decode cX11_strength 1 = .ok (.bipush 13, 2)) ∧ (decode cX11_strength 3 = .ok (.if_icmp .ne 7, 3)) ∧ (decode cX11_strength 6 = .ok (.iconst 1, 1)) ∧ (decode cX11_strength 7 = .ok (.goto 24, 3)) ∧ (decode cX11_strength 10 = .ok (.iload_n 0, 1)) ∧ (decode cX11_strength 11 = .ok (.bipush 12, 2)) ∧ (decode cX11_strength 13 = .ok (.if_icmp .ne 7, 3)) ∧ (decode cX11_strength 16 = .ok (.iconst 2, 1)) ∧ (decode cX11_strength 17 = .ok (.goto 14, 3)) ∧ (decode cX11_strength 20 = .ok (.iload_n 0, 1)) ∧ (decode cX11_strength 21 = .ok (.bipush 11, 2)) ∧ (decode cX11_strength 23 = .ok (.if_icmp .ne 7, 3)) ∧ (decode cX11_strength 26 = .ok (.iconst 3, 1)) ∧ (decode cX11_strength 27 = .ok (.goto 4, 3)) ∧ (decode cX11_strength 30 = .ok (.iconst 0, 1)) := by decide +kernel
theorem dX11_strength_0 : decode cX11_strength 0 = .ok (.iload_n 0, 1) := gdX11_strength_0.1
theorem dX11_strength_1 : decode cX11_strength 1 = .ok (.bipush 13, 2) := gdX11_strength_0.2.1
theorem dX11_strength_3 : decode cX11_strength 3 = .ok (.if_icmp .ne 7, 3) := gdX11_strength_0.2.2.1
theorem dX11_strength_6 : decode cX11_strength 6 = .ok (.iconst 1, 1) := gdX11_strength_0.2.2.2.1
theorem dX11_strength_7 : decode cX11_strength 7 = .ok (.goto 24, 3) := gdX11_strength_0.2.2.2.2.1
theorem dX11_strength_10 : decode cX11_strength 10 = .ok (.iload_n 0, 1) := gdX11_strength_0.2.2.2.2.2.1
theorem dX11_strength_11 : decode cX11_strength 11 = .ok (.bipush 12, 2) := gdX11_strength_0.2.2.2.2.2.2.1
theorem dX11_strength_13 : decode cX11_strength 13 = .ok (.if_icmp .ne 7, 3) := gdX11_strength_0.2.2.2.2.2.2.2.1
theorem dX11_strength_16 : decode cX11_strength 16 = .ok (.iconst 2, 1) := gdX11_strength_0.2.2.2.2.2.2.2.2.1
theorem dX11_strength_17 : decode cX11_strength 17 = .ok (.goto 14, 3) := gdX11_strength_0.2.2.2.2.2.2.2.2.2.1
theorem dX11_strength_20 : decode cX11_strength 20 = .ok (.iload_n 0, 1) := gdX11_strength_0.2.2.2.2.2.2.2.2.2.2.1
theorem dX11_strength_21 : decode cX11_strength 21 = .ok (.bipush 11, 2) := gdX11_strength_0.2.2.2.2.2.2.2.2.2.2.2.1
theorem dX11_strength_23 : decode cX11_strength 23 = .ok (.if_icmp .ne 7, 3) := gdX11_strength_0.2.2.2.2.2.2.2.2.2.2.2.2.1
theorem dX11_strength_26 : decode cX11_strength 26 = .ok (.iconst 3, 1) := gdX11_strength_0.2.2.2.2.2.2.2.2.2.2.2.2.2.1
theorem dX11_strength_27 : decode cX11_strength 27 = .ok (.goto 4, 3) := gdX11_strength_0.2.2.2.2.2.2.2.2.2.2.2.2.2.2.1
theorem dX11_strength_30 : decode cX11_strength 30 = .ok (.iconst 0, 1) := gdX11_strength_0.2.2.2.2.2.2.2.2.2.2.2.2.2.2.2
theorem dX11_strength_31 : decode cX11_strength 31 = .ok (.ireturn, 1) := by decide +kernel
theorem gdX11_settles_0 : (decode cX11_settles 0 = .ok (.aload_n 0, 1)) ∧ (decode cX11_settles 1 = .ok (.getfield 160, 3)) ∧ (decode cX11_settles 4 = .ok (.ifCond .le 72, 3)) ∧ (decode cX11_settles 7 = .ok (.aload_n 0, 1)) ∧ (decode cX11_settles 8 = .ok (.getfield 35, 3)) ∧ (decode cX11_settles 11 = .ok (.aload_n 0, 1)) ∧ (decode cX11_settles 12 = .ok (.getfield 160, 3)) ∧ (decode cX11_settles 15 = .ok (.iconst 1, 1)) ∧ (decode cX11_settles 16 = .ok (.isub, 1)) ∧ (decode cX11_settles 17 = .ok (.iaload, 1)) ∧ (decode cX11_settles 18 = .ok (.invokestatic 163, 3)) ∧ (decode cX11_settles 21 = .ok (.iload_n 1, 1)) ∧ (decode cX11_settles 22 = .ok (.if_icmp .lt 54, 3)) ∧ (decode cX11_settles 25 = .ok (.aload_n 0, 1)) ∧ (decode cX11_settles 26 = .ok (.dup, 1)) ∧ (decode cX11_settles 27 = .ok (.getfield 160, 3)) := by decide +kernel
theorem dX11_settles_0 : decode cX11_settles 0 = .ok (.aload_n 0, 1) := gdX11_settles_0.1
theorem dX11_settles_1 : decode cX11_settles 1 = .ok (.getfield 160, 3) := gdX11_settles_0.2.1
theorem dX11_settles_4 : decode cX11_settles 4 = .ok (.ifCond .le 72, 3) := gdX11_settles_0.2.2.1
theorem dX11_settles_7 : decode cX11_settles 7 = .ok (.aload_n 0, 1) := gdX11_settles_0.2.2.2.1
theorem dX11_settles_8 : decode cX11_settles 8 = .ok (.getfield 35, 3) := gdX11_settles_0.2.2.2.2.1
theorem dX11_settles_11 : decode cX11_settles 11 = .ok (.aload_n 0, 1) := gdX11_settles_0.2.2.2.2.2.1
theorem dX11_settles_12 : decode cX11_settles 12 = .ok (.getfield 160, 3) := gdX11_settles_0.2.2.2.2.2.2.1
theorem dX11_settles_15 : decode cX11_settles 15 = .ok (.iconst 1, 1) := gdX11_settles_0.2.2.2.2.2.2.2.1
theorem dX11_settles_16 : decode cX11_settles 16 = .ok (.isub, 1) := gdX11_settles_0.2.2.2.2.2.2.2.2.1
theorem dX11_settles_17 : decode cX11_settles 17 = .ok (.iaload, 1) := gdX11_settles_0.2.2.2.2.2.2.2.2.2.1
theorem dX11_settles_18 : decode cX11_settles 18 = .ok (.invokestatic 163, 3) := gdX11_settles_0.2.2.2.2.2.2.2.2.2.2.1
theorem dX11_settles_21 : decode cX11_settles 21 = .ok (.iload_n 1, 1) := gdX11_settles_0.2.2.2.2.2.2.2.2.2.2.2.1
theorem dX11_settles_22 : decode cX11_settles 22 = .ok (.if_icmp .lt 54, 3) := gdX11_settles_0.2.2.2.2.2.2.2.2.2.2.2.2.1
theorem dX11_settles_25 : decode cX11_settles 25 = .ok (.aload_n 0, 1) := gdX11_settles_0.2.2.2.2.2.2.2.2.2.2.2.2.2.1
theorem dX11_settles_26 : decode cX11_settles 26 = .ok (.dup, 1) := gdX11_settles_0.2.2.2.2.2.2.2.2.2.2.2.2.2.2.1
theorem dX11_settles_27 : decode cX11_settles 27 = .ok (.getfield 160, 3) := gdX11_settles_0.2.2.2.2.2.2.2.2.2.2.2.2.2.2.2
theorem gdX11_settles_30 : (decode cX11_settles 30 = .ok (.iconst 1, 1)) ∧ (decode cX11_settles 31 = .ok (.isub, 1)) ∧ (decode cX11_settles 32 = .ok (.putfield 160, 3)) ∧ (decode cX11_settles 35 = .ok (.aload_n 0, 1)) ∧ (decode cX11_settles 36 = .ok (.aload_n 0, 1)) ∧ (decode cX11_settles 37 = .ok (.getfield 35, 3)) ∧ (decode cX11_settles 40 = .ok (.aload_n 0, 1)) ∧ (decode cX11_settles 41 = .ok (.getfield 160, 3)) ∧ (decode cX11_settles 44 = .ok (.iaload, 1)) ∧ (decode cX11_settles 45 = .ok (.iconst 0, 1)) ∧ (decode cX11_settles 46 = .ok (.invokevirtual 167, 3)) ∧ (decode cX11_settles 49 = .ok (.aload_n 0, 1)) ∧ (decode cX11_settles 50 = .ok (.getfield 35, 3)) ∧ (decode cX11_settles 53 = .ok (.aload_n 0, 1)) ∧ (decode cX11_settles 54 = .ok (.getfield 160, 3)) ∧ (decode cX11_settles 57 = .ok (.iaload, 1)) := by decide +kernel
theorem dX11_settles_30 : decode cX11_settles 30 = .ok (.iconst 1, 1) := gdX11_settles_30.1
theorem dX11_settles_31 : decode cX11_settles 31 = .ok (.isub, 1) := gdX11_settles_30.2.1
theorem dX11_settles_32 : decode cX11_settles 32 = .ok (.putfield 160, 3) := gdX11_settles_30.2.2.1
theorem dX11_settles_35 : decode cX11_settles 35 = .ok (.aload_n 0, 1) := gdX11_settles_30.2.2.2.1
theorem dX11_settles_36 : decode cX11_settles 36 = .ok (.aload_n 0, 1) := gdX11_settles_30.2.2.2.2.1
theorem dX11_settles_37 : decode cX11_settles 37 = .ok (.getfield 35, 3) := gdX11_settles_30.2.2.2.2.2.1
theorem dX11_settles_40 : decode cX11_settles 40 = .ok (.aload_n 0, 1) := gdX11_settles_30.2.2.2.2.2.2.1
theorem dX11_settles_41 : decode cX11_settles 41 = .ok (.getfield 160, 3) := gdX11_settles_30.2.2.2.2.2.2.2.1
theorem dX11_settles_44 : decode cX11_settles 44 = .ok (.iaload, 1) := gdX11_settles_30.2.2.2.2.2.2.2.2.1
theorem dX11_settles_45 : decode cX11_settles 45 = .ok (.iconst 0, 1) := gdX11_settles_30.2.2.2.2.2.2.2.2.2.1
theorem dX11_settles_46 : decode cX11_settles 46 = .ok (.invokevirtual 167, 3) := gdX11_settles_30.2.2.2.2.2.2.2.2.2.2.1
theorem dX11_settles_49 : decode cX11_settles 49 = .ok (.aload_n 0, 1) := gdX11_settles_30.2.2.2.2.2.2.2.2.2.2.2.1
theorem dX11_settles_50 : decode cX11_settles 50 = .ok (.getfield 35, 3) := gdX11_settles_30.2.2.2.2.2.2.2.2.2.2.2.2.1
theorem dX11_settles_53 : decode cX11_settles 53 = .ok (.aload_n 0, 1) := gdX11_settles_30.2.2.2.2.2.2.2.2.2.2.2.2.2.1
theorem dX11_settles_54 : decode cX11_settles 54 = .ok (.getfield 160, 3) := gdX11_settles_30.2.2.2.2.2.2.2.2.2.2.2.2.2.2.1
theorem dX11_settles_57 : decode cX11_settles 57 = .ok (.iaload, 1) := gdX11_settles_30.2.2.2.2.2.2.2.2.2.2.2.2.2.2.2
