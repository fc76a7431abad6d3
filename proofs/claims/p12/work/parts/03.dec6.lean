theorem gdX11_when_86 : (decode cX11_when 86 = .ok (.invokevirtual 333, 3)) ∧ (decode cX11_when 89 = .ok (.iload 4, 2)) ∧ (decode cX11_when 91 = .ok (.invokestatic 307, 3)) ∧ (decode cX11_when 94 = .ok (.lreturn, 1)) := by decide +kernel
theorem dX11_when_86 : decode cX11_when 86 = .ok (.invokevirtual 333, 3) := gdX11_when_86.1
theorem dX11_when_89 : decode cX11_when 89 = .ok (.iload 4, 2) := gdX11_when_86.2.1
theorem dX11_when_91 : decode cX11_when 91 = .ok (.invokestatic 307, 3) := gdX11_when_86.2.2.1
theorem dX11_when_94 : decode cX11_when 94 = .ok (.lreturn, 1) := gdX11_when_86.2.2.2
theorem gdX11_shown_0 : (decode cX11_shown 0 = .ok (.aload_n 0, 1)) ∧ (decode cX11_shown 1 = .ok (.iload_n 1, 1)) ∧ (decode cX11_shown 2 = .ok (.invokevirtual 299, 3)) ∧ (decode cX11_shown 5 = .ok (.ifCond .eq 25, 3)) ∧ (decode cX11_shown 8 = .ok (.iload_n 2, 1)) ∧ (decode cX11_shown 9 = .ok (.i2l, 1)) ∧ (decode cX11_shown 10 = .ok (.lconst 0, 1)) ∧ (decode cX11_shown 11 = .ok (.ldc2_w 365, 3)) ∧ (decode cX11_shown 14 = .ok (.invokestatic 131, 3)) ∧ (decode cX11_shown 17 = .ok (.ifCond .eq 13, 3)) ∧ (decode cX11_shown 20 = .ok (.iload_n 3, 1)) ∧ (decode cX11_shown 21 = .ok (.i2l, 1)) ∧ (decode cX11_shown 22 = .ok (.lconst 0, 1)) ∧ (decode cX11_shown 23 = .ok (.lconst 1, 1)) ∧ (decode cX11_shown 24 = .ok (.invokestatic 131, 3)) ∧ (decode cX11_shown 27 = .ok (.ifCond .ne 5, 3)) := by decide +kernel
theorem dX11_shown_0 : decode cX11_shown 0 = .ok (.aload_n 0, 1) := gdX11_shown_0.1
theorem dX11_shown_1 : decode cX11_shown 1 = .ok (.iload_n 1, 1) := gdX11_shown_0.2.1
theorem dX11_shown_2 : decode cX11_shown 2 = .ok (.invokevirtual 299, 3) := gdX11_shown_0.2.2.1
theorem dX11_shown_5 : decode cX11_shown 5 = .ok (.ifCond .eq 25, 3) := gdX11_shown_0.2.2.2.1
theorem dX11_shown_8 : decode cX11_shown 8 = .ok (.iload_n 2, 1) := gdX11_shown_0.2.2.2.2.1
theorem dX11_shown_9 : decode cX11_shown 9 = .ok (.i2l, 1) := gdX11_shown_0.2.2.2.2.2.1
theorem dX11_shown_10 : decode cX11_shown 10 = .ok (.lconst 0, 1) := gdX11_shown_0.2.2.2.2.2.2.1
theorem dX11_shown_11 : decode cX11_shown 11 = .ok (.ldc2_w 365, 3) := gdX11_shown_0.2.2.2.2.2.2.2.1
theorem dX11_shown_14 : decode cX11_shown 14 = .ok (.invokestatic 131, 3) := gdX11_shown_0.2.2.2.2.2.2.2.2.1
theorem dX11_shown_17 : decode cX11_shown 17 = .ok (.ifCond .eq 13, 3) := gdX11_shown_0.2.2.2.2.2.2.2.2.2.1
theorem dX11_shown_20 : decode cX11_shown 20 = .ok (.iload_n 3, 1) := gdX11_shown_0.2.2.2.2.2.2.2.2.2.2.1
theorem dX11_shown_21 : decode cX11_shown 21 = .ok (.i2l, 1) := gdX11_shown_0.2.2.2.2.2.2.2.2.2.2.2.1
theorem dX11_shown_22 : decode cX11_shown 22 = .ok (.lconst 0, 1) := gdX11_shown_0.2.2.2.2.2.2.2.2.2.2.2.2.1
theorem dX11_shown_23 : decode cX11_shown 23 = .ok (.lconst 1, 1) := gdX11_shown_0.2.2.2.2.2.2.2.2.2.2.2.2.2.1
theorem dX11_shown_24 : decode cX11_shown 24 = .ok (.invokestatic 131, 3) := gdX11_shown_0.2.2.2.2.2.2.2.2.2.2.2.2.2.2.1
theorem dX11_shown_27 : decode cX11_shown 27 = .ok (.ifCond .ne 5, 3) := gdX11_shown_0.2.2.2.2.2.2.2.2.2.2.2.2.2.2.2
theorem gdX11_shown_30 : (decode cX11_shown 30 = .ok (.iconst (-1), 1)) ∧ (decode cX11_shown 31 = .ok (.ireturn, 1)) ∧ (decode cX11_shown 32 = .ok (.iload_n 2, 1)) ∧ (decode cX11_shown 33 = .ok (.aload_n 0, 1)) ∧ (decode cX11_shown 34 = .ok (.getfield 45, 3)) ∧ (decode cX11_shown 37 = .ok (.bipush 10, 2)) ∧ (decode cX11_shown 39 = .ok (.iconst 2, 1)) ∧ (decode cX11_shown 40 = .ok (.iload_n 1, 1)) ∧ (decode cX11_shown 41 = .ok (.imul, 1)) ∧ (decode cX11_shown 42 = .ok (.iadd, 1)) ∧ (decode cX11_shown 43 = .ok (.iaload, 1)) ∧ (decode cX11_shown 44 = .ok (.imul, 1)) ∧ (decode cX11_shown 45 = .ok (.aload_n 0, 1)) ∧ (decode cX11_shown 46 = .ok (.getfield 45, 3)) ∧ (decode cX11_shown 49 = .ok (.bipush 10, 2)) ∧ (decode cX11_shown 51 = .ok (.iconst 2, 1)) := by decide +kernel
theorem dX11_shown_30 : decode cX11_shown 30 = .ok (.iconst (-1), 1) := gdX11_shown_30.1
theorem dX11_shown_31 : decode cX11_shown 31 = .ok (.ireturn, 1) := gdX11_shown_30.2.1
theorem dX11_shown_32 : decode cX11_shown 32 = .ok (.iload_n 2, 1) := gdX11_shown_30.2.2.1
theorem dX11_shown_33 : decode cX11_shown 33 = .ok (.aload_n 0, 1) := gdX11_shown_30.2.2.2.1
theorem dX11_shown_34 : decode cX11_shown 34 = .ok (.getfield 45, 3) := gdX11_shown_30.2.2.2.2.1
theorem dX11_shown_37 : decode cX11_shown 37 = .ok (.bipush 10, 2) := gdX11_shown_30.2.2.2.2.2.1
theorem dX11_shown_39 : decode cX11_shown 39 = .ok (.iconst 2, 1) := gdX11_shown_30.2.2.2.2.2.2.1
theorem dX11_shown_40 : decode cX11_shown 40 = .ok (.iload_n 1, 1) := gdX11_shown_30.2.2.2.2.2.2.2.1
theorem dX11_shown_41 : decode cX11_shown 41 = .ok (.imul, 1) := gdX11_shown_30.2.2.2.2.2.2.2.2.1
theorem dX11_shown_42 : decode cX11_shown 42 = .ok (.iadd, 1) := gdX11_shown_30.2.2.2.2.2.2.2.2.2.1
theorem dX11_shown_43 : decode cX11_shown 43 = .ok (.iaload, 1) := gdX11_shown_30.2.2.2.2.2.2.2.2.2.2.1
theorem dX11_shown_44 : decode cX11_shown 44 = .ok (.imul, 1) := gdX11_shown_30.2.2.2.2.2.2.2.2.2.2.2.1
theorem dX11_shown_45 : decode cX11_shown 45 = .ok (.aload_n 0, 1) := gdX11_shown_30.2.2.2.2.2.2.2.2.2.2.2.2.1
theorem dX11_shown_46 : decode cX11_shown 46 = .ok (.getfield 45, 3) := gdX11_shown_30.2.2.2.2.2.2.2.2.2.2.2.2.2.1
theorem dX11_shown_49 : decode cX11_shown 49 = .ok (.bipush 10, 2) := gdX11_shown_30.2.2.2.2.2.2.2.2.2.2.2.2.2.2.1
theorem dX11_shown_51 : decode cX11_shown 51 = .ok (.iconst 2, 1) := gdX11_shown_30.2.2.2.2.2.2.2.2.2.2.2.2.2.2.2
theorem gdX11_shown_52 : (decode cX11_shown 52 = .ok (.iload_n 1, 1)) ∧ (decode cX11_shown 53 = .ok (.imul, 1)) ∧ (decode cX11_shown 54 = .ok (.iadd, 1)) ∧ (decode cX11_shown 55 = .ok (.iconst 1, 1)) ∧ (decode cX11_shown 56 = .ok (.iadd, 1)) ∧ (decode cX11_shown 57 = .ok (.iaload, 1)) ∧ (decode cX11_shown 58 = .ok (.idiv, 1)) ∧ (decode cX11_shown 59 = .ok (.istore 4, 2)) ∧ (decode cX11_shown 61 = .ok (.iload_n 3, 1)) ∧ (decode cX11_shown 62 = .ok (.ifCond .ne 11, 3)) ∧ (decode cX11_shown 65 = .ok (.iload 4, 2)) ∧ (decode cX11_shown 67 = .ok (.bipush 24, 2)) ∧ (decode cX11_shown 69 = .ok (.idiv, 1)) ∧ (decode cX11_shown 70 = .ok (.goto 8, 3)) ∧ (decode cX11_shown 73 = .ok (.iload 4, 2)) ∧ (decode cX11_shown 75 = .ok (.bipush 24, 2)) := by decide +kernel
theorem dX11_shown_52 : decode cX11_shown 52 = .ok (.iload_n 1, 1) := gdX11_shown_52.1
theorem dX11_shown_53 : decode cX11_shown 53 = .ok (.imul, 1) := gdX11_shown_52.2.1
theorem dX11_shown_54 : decode cX11_shown 54 = .ok (.iadd, 1) := gdX11_shown_52.2.2.1
theorem dX11_shown_55 : decode cX11_shown 55 = .ok (.iconst 1, 1) := gdX11_shown_52.2.2.2.1
theorem dX11_shown_56 : decode cX11_shown 56 = .ok (.iadd, 1) := gdX11_shown_52.2.2.2.2.1
theorem dX11_shown_57 : decode cX11_shown 57 = .ok (.iaload, 1) := gdX11_shown_52.2.2.2.2.2.1
theorem dX11_shown_58 : decode cX11_shown 58 = .ok (.idiv, 1) := gdX11_shown_52.2.2.2.2.2.2.1
theorem dX11_shown_59 : decode cX11_shown 59 = .ok (.istore 4, 2) := gdX11_shown_52.2.2.2.2.2.2.2.1
theorem dX11_shown_61 : decode cX11_shown 61 = .ok (.iload_n 3, 1) := gdX11_shown_52.2.2.2.2.2.2.2.2.1
theorem dX11_shown_62 : decode cX11_shown 62 = .ok (.ifCond .ne 11, 3) := gdX11_shown_52.2.2.2.2.2.2.2.2.2.1
theorem dX11_shown_65 : decode cX11_shown 65 = .ok (.iload 4, 2) := gdX11_shown_52.2.2.2.2.2.2.2.2.2.2.1
theorem dX11_shown_67 : decode cX11_shown 67 = .ok (.bipush 24, 2) := gdX11_shown_52.2.2.2.2.2.2.2.2.2.2.2.1
theorem dX11_shown_69 : decode cX11_shown 69 = .ok (.idiv, 1) := gdX11_shown_52.2.2.2.2.2.2.2.2.2.2.2.2.1
theorem dX11_shown_70 : decode cX11_shown 70 = .ok (.goto 8, 3) := gdX11_shown_52.2.2.2.2.2.2.2.2.2.2.2.2.2.1
theorem dX11_shown_73 : decode cX11_shown 73 = .ok (.iload 4, 2) := gdX11_shown_52.2.2.2.2.2.2.2.2.2.2.2.2.2.2.1
theorem dX11_shown_75 : decode cX11_shown 75 = .ok (.bipush 24, 2) := gdX11_shown_52.2.2.2.2.2.2.2.2.2.2.2.2.2.2.2
theorem gdX11_shown_77 : (decode cX11_shown 77 = .ok (.irem, 1)) ∧ (decode cX11_shown 78 = .ok (.ireturn, 1)) := by decide +kernel
theorem dX11_shown_77 : decode cX11_shown 77 = .ok (.irem, 1) := gdX11_shown_77.1
theorem dX11_shown_78 : decode cX11_shown 78 = .ok (.ireturn, 1) := gdX11_shown_77.2
theorem gdX11_noonsTill_0 : (decode cX11_noonsTill 0 = .ok (.iload_n 0, 1)) ∧ (decode cX11_noonsTill 1 = .ok (.bipush 12, 2)) ∧ (decode cX11_noonsTill 3 = .ok (.iload_n 1, 1)) ∧ (decode cX11_noonsTill 4 = .ok (.imul, 1)) ∧ (decode cX11_noonsTill 5 = .ok (.if_icmp .ge 7, 3)) ∧ (decode cX11_noonsTill 8 = .ok (.iconst 0, 1)) ∧ (decode cX11_noonsTill 9 = .ok (.goto 16, 3)) ∧ (decode cX11_noonsTill 12 = .ok (.iload_n 0, 1)) ∧ (decode cX11_noonsTill 13 = .ok (.bipush 12, 2)) ∧ (decode cX11_noonsTill 15 = .ok (.iload_n 1, 1)) ∧ (decode cX11_noonsTill 16 = .ok (.imul, 1)) ∧ (decode cX11_noonsTill 17 = .ok (.isub, 1)) ∧ (decode cX11_noonsTill 18 = .ok (.bipush 24, 2)) ∧ (decode cX11_noonsTill 20 = .ok (.iload_n 1, 1)) ∧ (decode cX11_noonsTill 21 = .ok (.imul, 1)) ∧ (decode cX11_noonsTill 22 = .ok (.idiv, 1)) := by decide +kernel
theorem dX11_noonsTill_0 : decode cX11_noonsTill 0 = .ok (.iload_n 0, 1) := gdX11_noonsTill_0.1
theorem dX11_noonsTill_1 : decode cX11_noonsTill 1 = .ok (.bipush 12, 2) := gdX11_noonsTill_0.2.1
theorem dX11_noonsTill_3 : decode cX11_noonsTill 3 = .ok (.iload_n 1, 1) := gdX11_noonsTill_0.2.2.1
theorem dX11_noonsTill_4 : decode cX11_noonsTill 4 = .ok (.imul, 1) := gdX11_noonsTill_0.2.2.2.1
theorem dX11_noonsTill_5 : decode cX11_noonsTill 5 = .ok (.if_icmp .ge 7, 3) := gdX11_noonsTill_0.2.2.2.2.1
theorem dX11_noonsTill_8 : decode cX11_noonsTill 8 = .ok (.iconst 0, 1) := gdX11_noonsTill_0.2.2.2.2.2.1
theorem dX11_noonsTill_9 : decode cX11_noonsTill 9 = .ok (.goto 16, 3) := gdX11_noonsTill_0.2.2.2.2.2.2.1
theorem dX11_noonsTill_12 : decode cX11_noonsTill 12 = .ok (.iload_n 0, 1) := gdX11_noonsTill_0.2.2.2.2.2.2.2.1
theorem dX11_noonsTill_13 : decode cX11_noonsTill 13 = .ok (.bipush 12, 2) := gdX11_noonsTill_0.2.2.2.2.2.2.2.2.1
theorem dX11_noonsTill_15 : decode cX11_noonsTill 15 = .ok (.iload_n 1, 1) := gdX11_noonsTill_0.2.2.2.2.2.2.2.2.2.1
theorem dX11_noonsTill_16 : decode cX11_noonsTill 16 = .ok (.imul, 1) := gdX11_noonsTill_0.2.2.2.2.2.2.2.2.2.2.1
theorem dX11_noonsTill_17 : decode cX11_noonsTill 17 = .ok (.isub, 1) := gdX11_noonsTill_0.2.2.2.2.2.2.2.2.2.2.2.1
theorem dX11_noonsTill_18 : decode cX11_noonsTill 18 = .ok (.bipush 24, 2) := gdX11_noonsTill_0.2.2.2.2.2.2.2.2.2.2.2.2.1
theorem dX11_noonsTill_20 : decode cX11_noonsTill 20 = .ok (.iload_n 1, 1) := gdX11_noonsTill_0.2.2.2.2.2.2.2.2.2.2.2.2.2.1
theorem dX11_noonsTill_21 : decode cX11_noonsTill 21 = .ok (.imul, 1) := gdX11_noonsTill_0.2.2.2.2.2.2.2.2.2.2.2.2.2.2.1
theorem dX11_noonsTill_22 : decode cX11_noonsTill 22 = .ok (.idiv, 1) := gdX11_noonsTill_0.2.2.2.2.2.2.2.2.2.2.2.2.2.2.2
theorem gdX11_noonsTill_23 : (decode cX11_noonsTill 23 = .ok (.iconst 1, 1)) ∧ (decode cX11_noonsTill 24 = .ok (.iadd, 1)) ∧ (decode cX11_noonsTill 25 = .ok (.ireturn, 1)) := by decide +kernel
theorem dX11_noonsTill_23 : decode cX11_noonsTill 23 = .ok (.iconst 1, 1) := gdX11_noonsTill_23.1
theorem dX11_noonsTill_24 : decode cX11_noonsTill 24 = .ok (.iadd, 1) := gdX11_noonsTill_23.2.1
theorem dX11_noonsTill_25 : decode cX11_noonsTill 25 = .ok (.ireturn, 1) := gdX11_noonsTill_23.2.2
theorem gdX11_noonsIn_0 : (decode cX11_noonsIn 0 = .ok (.aload_n 0, 1)) ∧ (decode cX11_noonsIn 1 = .ok (.iload_n 1, 1)) ∧ (decode cX11_noonsIn 2 = .ok (.invokevirtual 299, 3)) ∧ (decode cX11_noonsIn 5 = .ok (.ifCond .eq 28, 3)) ∧ (decode cX11_noonsIn 8 = .ok (.iload_n 2, 1)) ∧ (decode cX11_noonsIn 9 = .ok (.i2l, 1)) ∧ (decode cX11_noonsIn 10 = .ok (.lconst 0, 1)) ∧ (decode cX11_noonsIn 11 = .ok (.ldc2_w 365, 3)) ∧ (decode cX11_noonsIn 14 = .ok (.invokestatic 131, 3)) ∧ (decode cX11_noonsIn 17 = .ok (.ifCond .eq 16, 3)) ∧ (decode cX11_noonsIn 20 = .ok (.iload_n 3, 1)) ∧ (decode cX11_noonsIn 21 = .ok (.i2l, 1)) ∧ (decode cX11_noonsIn 22 = .ok (.iload_n 2, 1)) ∧ (decode cX11_noonsIn 23 = .ok (.i2l, 1)) ∧ (decode cX11_noonsIn 24 = .ok (.ldc2_w 365, 3)) ∧ (decode cX11_noonsIn 27 = .ok (.invokestatic 131, 3)) := by decide +kernel
theorem dX11_noonsIn_0 : decode cX11_noonsIn 0 = .ok (.aload_n 0, 1) := gdX11_noonsIn_0.1
theorem dX11_noonsIn_1 : decode cX11_noonsIn 1 = .ok (.iload_n 1, 1) := gdX11_noonsIn_0.2.1
theorem dX11_noonsIn_2 : decode cX11_noonsIn 2 = .ok (.invokevirtual 299, 3) := gdX11_noonsIn_0.2.2.1
theorem dX11_noonsIn_5 : decode cX11_noonsIn 5 = .ok (.ifCond .eq 28, 3) := gdX11_noonsIn_0.2.2.2.1
theorem dX11_noonsIn_8 : decode cX11_noonsIn 8 = .ok (.iload_n 2, 1) := gdX11_noonsIn_0.2.2.2.2.1
theorem dX11_noonsIn_9 : decode cX11_noonsIn 9 = .ok (.i2l, 1) := gdX11_noonsIn_0.2.2.2.2.2.1
theorem dX11_noonsIn_10 : decode cX11_noonsIn 10 = .ok (.lconst 0, 1) := gdX11_noonsIn_0.2.2.2.2.2.2.1
theorem dX11_noonsIn_11 : decode cX11_noonsIn 11 = .ok (.ldc2_w 365, 3) := gdX11_noonsIn_0.2.2.2.2.2.2.2.1
theorem dX11_noonsIn_14 : decode cX11_noonsIn 14 = .ok (.invokestatic 131, 3) := gdX11_noonsIn_0.2.2.2.2.2.2.2.2.1
theorem dX11_noonsIn_17 : decode cX11_noonsIn 17 = .ok (.ifCond .eq 16, 3) := gdX11_noonsIn_0.2.2.2.2.2.2.2.2.2.1
theorem dX11_noonsIn_20 : decode cX11_noonsIn 20 = .ok (.iload_n 3, 1) := gdX11_noonsIn_0.2.2.2.2.2.2.2.2.2.2.1
theorem dX11_noonsIn_21 : decode cX11_noonsIn 21 = .ok (.i2l, 1) := gdX11_noonsIn_0.2.2.2.2.2.2.2.2.2.2.2.1
theorem dX11_noonsIn_22 : decode cX11_noonsIn 22 = .ok (.iload_n 2, 1) := gdX11_noonsIn_0.2.2.2.2.2.2.2.2.2.2.2.2.1
theorem dX11_noonsIn_23 : decode cX11_noonsIn 23 = .ok (.i2l, 1) := gdX11_noonsIn_0.2.2.2.2.2.2.2.2.2.2.2.2.2.1
theorem dX11_noonsIn_24 : decode cX11_noonsIn 24 = .ok (.ldc2_w 365, 3) := gdX11_noonsIn_0.2.2.2.2.2.2.2.2.2.2.2.2.2.2.1
theorem dX11_noonsIn_27 : decode cX11_noonsIn 27 = .ok (.invokestatic 131, 3) := gdX11_noonsIn_0.2.2.2.2.2.2.2.2.2.2.2.2.2.2.2
theorem gdX11_noonsIn_30 : (decode cX11_noonsIn 30 = .ok (.ifCond .ne 5, 3)) ∧ (decode cX11_noonsIn 33 = .ok (.iconst (-1), 1)) ∧ (decode cX11_noonsIn 34 = .ok (.ireturn, 1)) ∧ (decode cX11_noonsIn 35 = .ok (.aload_n 0, 1)) ∧ (decode cX11_noonsIn 36 = .ok (.getfield 45, 3)) ∧ (decode cX11_noonsIn 39 = .ok (.bipush 10, 2)) ∧ (decode cX11_noonsIn 41 = .ok (.iconst 2, 1)) ∧ (decode cX11_noonsIn 42 = .ok (.iload_n 1, 1)) ∧ (decode cX11_noonsIn 43 = .ok (.imul, 1)) ∧ (decode cX11_noonsIn 44 = .ok (.iadd, 1)) ∧ (decode cX11_noonsIn 45 = .ok (.iaload, 1)) ∧ (decode cX11_noonsIn 46 = .ok (.istore 4, 2)) ∧ (decode cX11_noonsIn 48 = .ok (.aload_n 0, 1)) ∧ (decode cX11_noonsIn 49 = .ok (.getfield 45, 3)) ∧ (decode cX11_noonsIn 52 = .ok (.bipush 10, 2)) ∧ (decode cX11_noonsIn 54 = .ok (.iconst 2, 1)) := by decide +kernel
theorem dX11_noonsIn_30 : decode cX11_noonsIn 30 = .ok (.ifCond .ne 5, 3) := gdX11_noonsIn_30.1
theorem dX11_noonsIn_33 : decode cX11_noonsIn 33 = .ok (.iconst (-1), 1) := gdX11_noonsIn_30.2.1
theorem dX11_noonsIn_34 : decode cX11_noonsIn 34 = .ok (.ireturn, 1) := gdX11_noonsIn_30.2.2.1
theorem dX11_noonsIn_35 : decode cX11_noonsIn 35 = .ok (.aload_n 0, 1) := gdX11_noonsIn_30.2.2.2.1
theorem dX11_noonsIn_36 : decode cX11_noonsIn 36 = .ok (.getfield 45, 3) := gdX11_noonsIn_30.2.2.2.2.1
theorem dX11_noonsIn_39 : decode cX11_noonsIn 39 = .ok (.bipush 10, 2) := gdX11_noonsIn_30.2.2.2.2.2.1
theorem dX11_noonsIn_41 : decode cX11_noonsIn 41 = .ok (.iconst 2, 1) := gdX11_noonsIn_30.2.2.2.2.2.2.1
theorem dX11_noonsIn_42 : decode cX11_noonsIn 42 = .ok (.iload_n 1, 1) := gdX11_noonsIn_30.2.2.2.2.2.2.2.1
theorem dX11_noonsIn_43 : decode cX11_noonsIn 43 = .ok (.imul, 1) := gdX11_noonsIn_30.2.2.2.2.2.2.2.2.1
theorem dX11_noonsIn_44 : decode cX11_noonsIn 44 = .ok (.iadd, 1) := gdX11_noonsIn_30.2.2.2.2.2.2.2.2.2.1
theorem dX11_noonsIn_45 : decode cX11_noonsIn 45 = .ok (.iaload, 1) := gdX11_noonsIn_30.2.2.2.2.2.2.2.2.2.2.1
theorem dX11_noonsIn_46 : decode cX11_noonsIn 46 = .ok (.istore 4, 2) := gdX11_noonsIn_30.2.2.2.2.2.2.2.2.2.2.2.1
theorem dX11_noonsIn_48 : decode cX11_noonsIn 48 = .ok (.aload_n 0, 1) := gdX11_noonsIn_30.2.2.2.2.2.2.2.2.2.2.2.2.1
theorem dX11_noonsIn_49 : decode cX11_noonsIn 49 = .ok (.getfield 45, 3) := gdX11_noonsIn_30.2.2.2.2.2.2.2.2.2.2.2.2.2.1
theorem dX11_noonsIn_52 : decode cX11_noonsIn 52 = .ok (.bipush 10, 2) := gdX11_noonsIn_30.2.2.2.2.2.2.2.2.2.2.2.2.2.2.1
theorem dX11_noonsIn_54 : decode cX11_noonsIn 54 = .ok (.iconst 2, 1) := gdX11_noonsIn_30.2.2.2.2.2.2.2.2.2.2.2.2.2.2.2
theorem gdX11_noonsIn_55 : (decode cX11_noonsIn 55 = .ok (.iload_n 1, 1)) ∧ (decode cX11_noonsIn 56 = .ok (.imul, 1)) ∧ (decode cX11_noonsIn 57 = .ok (.iadd, 1)) ∧ (decode cX11_noonsIn 58 = .ok (.iconst 1, 1)) ∧ (decode cX11_noonsIn 59 = .ok (.iadd, 1)) ∧ (decode cX11_noonsIn 60 = .ok (.iaload, 1)) ∧ (decode cX11_noonsIn 61 = .ok (.istore 5, 2)) ∧ (decode cX11_noonsIn 63 = .ok (.iload_n 3, 1)) ∧ (decode cX11_noonsIn 64 = .ok (.iload 4, 2)) ∧ (decode cX11_noonsIn 66 = .ok (.imul, 1)) ∧ (decode cX11_noonsIn 67 = .ok (.iload 5, 2)) ∧ (decode cX11_noonsIn 69 = .ok (.invokestatic 387, 3)) ∧ (decode cX11_noonsIn 72 = .ok (.iload_n 2, 1)) ∧ (decode cX11_noonsIn 73 = .ok (.iload 4, 2)) ∧ (decode cX11_noonsIn 75 = .ok (.imul, 1)) ∧ (decode cX11_noonsIn 76 = .ok (.iconst 1, 1)) := by decide +kernel
theorem dX11_noonsIn_55 : decode cX11_noonsIn 55 = .ok (.iload_n 1, 1) := gdX11_noonsIn_55.1
theorem dX11_noonsIn_56 : decode cX11_noonsIn 56 = .ok (.imul, 1) := gdX11_noonsIn_55.2.1
theorem dX11_noonsIn_57 : decode cX11_noonsIn 57 = .ok (.iadd, 1) := gdX11_noonsIn_55.2.2.1
theorem dX11_noonsIn_58 : decode cX11_noonsIn 58 = .ok (.iconst 1, 1) := gdX11_noonsIn_55.2.2.2.1
theorem dX11_noonsIn_59 : decode cX11_noonsIn 59 = .ok (.iadd, 1) := gdX11_noonsIn_55.2.2.2.2.1
theorem dX11_noonsIn_60 : decode cX11_noonsIn 60 = .ok (.iaload, 1) := gdX11_noonsIn_55.2.2.2.2.2.1
theorem dX11_noonsIn_61 : decode cX11_noonsIn 61 = .ok (.istore 5, 2) := gdX11_noonsIn_55.2.2.2.2.2.2.1
theorem dX11_noonsIn_63 : decode cX11_noonsIn 63 = .ok (.iload_n 3, 1) := gdX11_noonsIn_55.2.2.2.2.2.2.2.1
theorem dX11_noonsIn_64 : decode cX11_noonsIn 64 = .ok (.iload 4, 2) := gdX11_noonsIn_55.2.2.2.2.2.2.2.2.1
theorem dX11_noonsIn_66 : decode cX11_noonsIn 66 = .ok (.imul, 1) := gdX11_noonsIn_55.2.2.2.2.2.2.2.2.2.1
theorem dX11_noonsIn_67 : decode cX11_noonsIn 67 = .ok (.iload 5, 2) := gdX11_noonsIn_55.2.2.2.2.2.2.2.2.2.2.1
theorem dX11_noonsIn_69 : decode cX11_noonsIn 69 = .ok (.invokestatic 387, 3) := gdX11_noonsIn_55.2.2.2.2.2.2.2.2.2.2.2.1
theorem dX11_noonsIn_72 : decode cX11_noonsIn 72 = .ok (.iload_n 2, 1) := gdX11_noonsIn_55.2.2.2.2.2.2.2.2.2.2.2.2.1
theorem dX11_noonsIn_73 : decode cX11_noonsIn 73 = .ok (.iload 4, 2) := gdX11_noonsIn_55.2.2.2.2.2.2.2.2.2.2.2.2.2.1
theorem dX11_noonsIn_75 : decode cX11_noonsIn 75 = .ok (.imul, 1) := gdX11_noonsIn_55.2.2.2.2.2.2.2.2.2.2.2.2.2.2.1
theorem dX11_noonsIn_76 : decode cX11_noonsIn 76 = .ok (.iconst 1, 1) := gdX11_noonsIn_55.2.2.2.2.2.2.2.2.2.2.2.2.2.2.2
theorem gdX11_noonsIn_77 : (decode cX11_noonsIn 77 = .ok (.isub, 1)) ∧ (decode cX11_noonsIn 78 = .ok (.iload 5, 2)) ∧ (decode cX11_noonsIn 80 = .ok (.invokestatic 387, 3)) ∧ (decode cX11_noonsIn 83 = .ok (.isub, 1)) ∧ (decode cX11_noonsIn 84 = .ok (.ireturn, 1)) := by decide +kernel
theorem dX11_noonsIn_77 : decode cX11_noonsIn 77 = .ok (.isub, 1) := gdX11_noonsIn_77.1
theorem dX11_noonsIn_78 : decode cX11_noonsIn 78 = .ok (.iload 5, 2) := gdX11_noonsIn_77.2.1
theorem dX11_noonsIn_80 : decode cX11_noonsIn 80 = .ok (.invokestatic 387, 3) := gdX11_noonsIn_77.2.2.1
theorem dX11_noonsIn_83 : decode cX11_noonsIn 83 = .ok (.isub, 1) := gdX11_noonsIn_77.2.2.2.1
theorem dX11_noonsIn_84 : decode cX11_noonsIn 84 = .ok (.ireturn, 1) := gdX11_noonsIn_77.2.2.2.2
theorem gdX11_due_0 : (decode cX11_due 0 = .ok (.aload_n 0, 1)) ∧ (decode cX11_due 1 = .ok (.iload_n 1, 1)) ∧ (decode cX11_due 2 = .ok (.invokevirtual 299, 3)) ∧ (decode cX11_due 5 = .ok (.ifCond .eq 15, 3)) ∧ (decode cX11_due 8 = .ok (.iload_n 2, 1)) ∧ (decode cX11_due 9 = .ok (.i2l, 1)) ∧ (decode cX11_due 10 = .ok (.lconst 0, 1)) ∧ (decode cX11_due 11 = .ok (.ldc2_w 365, 3)) ∧ (decode cX11_due 14 = .ok (.invokestatic 131, 3)) ∧ (decode cX11_due 17 = .ok (.ifCond .ne 5, 3)) ∧ (decode cX11_due 20 = .ok (.iconst (-1), 1)) ∧ (decode cX11_due 21 = .ok (.ireturn, 1)) ∧ (decode cX11_due 22 = .ok (.aload_n 0, 1)) ∧ (decode cX11_due 23 = .ok (.getfield 45, 3)) ∧ (decode cX11_due 26 = .ok (.bipush 10, 2)) ∧ (decode cX11_due 28 = .ok (.iconst 2, 1)) := by decide +kernel
theorem dX11_due_0 : decode cX11_due 0 = .ok (.aload_n 0, 1) := gdX11_due_0.1
theorem dX11_due_1 : decode cX11_due 1 = .ok (.iload_n 1, 1) := gdX11_due_0.2.1
theorem dX11_due_2 : decode cX11_due 2 = .ok (.invokevirtual 299, 3) := gdX11_due_0.2.2.1
theorem dX11_due_5 : decode cX11_due 5 = .ok (.ifCond .eq 15, 3) := gdX11_due_0.2.2.2.1
theorem dX11_due_8 : decode cX11_due 8 = .ok (.iload_n 2, 1) := gdX11_due_0.2.2.2.2.1
theorem dX11_due_9 : decode cX11_due 9 = .ok (.i2l, 1) := gdX11_due_0.2.2.2.2.2.1
theorem dX11_due_10 : decode cX11_due 10 = .ok (.lconst 0, 1) := gdX11_due_0.2.2.2.2.2.2.1
theorem dX11_due_11 : decode cX11_due 11 = .ok (.ldc2_w 365, 3) := gdX11_due_0.2.2.2.2.2.2.2.1
theorem dX11_due_14 : decode cX11_due 14 = .ok (.invokestatic 131, 3) := gdX11_due_0.2.2.2.2.2.2.2.2.1
theorem dX11_due_17 : decode cX11_due 17 = .ok (.ifCond .ne 5, 3) := gdX11_due_0.2.2.2.2.2.2.2.2.2.1
theorem dX11_due_20 : decode cX11_due 20 = .ok (.iconst (-1), 1) := gdX11_due_0.2.2.2.2.2.2.2.2.2.2.1
theorem dX11_due_21 : decode cX11_due 21 = .ok (.ireturn, 1) := gdX11_due_0.2.2.2.2.2.2.2.2.2.2.2.1
theorem dX11_due_22 : decode cX11_due 22 = .ok (.aload_n 0, 1) := gdX11_due_0.2.2.2.2.2.2.2.2.2.2.2.2.1
theorem dX11_due_23 : decode cX11_due 23 = .ok (.getfield 45, 3) := gdX11_due_0.2.2.2.2.2.2.2.2.2.2.2.2.2.1
theorem dX11_due_26 : decode cX11_due 26 = .ok (.bipush 10, 2) := gdX11_due_0.2.2.2.2.2.2.2.2.2.2.2.2.2.2.1
theorem dX11_due_28 : decode cX11_due 28 = .ok (.iconst 2, 1) := gdX11_due_0.2.2.2.2.2.2.2.2.2.2.2.2.2.2.2
theorem gdX11_due_29 : (decode cX11_due 29 = .ok (.iload_n 1, 1)) ∧ (decode cX11_due 30 = .ok (.imul, 1)) ∧ (decode cX11_due 31 = .ok (.iadd, 1)) ∧ (decode cX11_due 32 = .ok (.iaload, 1)) ∧ (decode cX11_due 33 = .ok (.istore_n 3, 1)) ∧ (decode cX11_due 34 = .ok (.bipush 24, 2)) ∧ (decode cX11_due 36 = .ok (.iload_n 2, 1)) ∧ (decode cX11_due 37 = .ok (.imul, 1)) ∧ (decode cX11_due 38 = .ok (.aload_n 0, 1)) ∧ (decode cX11_due 39 = .ok (.getfield 45, 3)) ∧ (decode cX11_due 42 = .ok (.bipush 10, 2)) ∧ (decode cX11_due 44 = .ok (.iconst 2, 1)) ∧ (decode cX11_due 45 = .ok (.iload_n 1, 1)) ∧ (decode cX11_due 46 = .ok (.imul, 1)) ∧ (decode cX11_due 47 = .ok (.iadd, 1)) ∧ (decode cX11_due 48 = .ok (.iconst 1, 1)) := by decide +kernel
theorem dX11_due_29 : decode cX11_due 29 = .ok (.iload_n 1, 1) := gdX11_due_29.1
theorem dX11_due_30 : decode cX11_due 30 = .ok (.imul, 1) := gdX11_due_29.2.1
theorem dX11_due_31 : decode cX11_due 31 = .ok (.iadd, 1) := gdX11_due_29.2.2.1
theorem dX11_due_32 : decode cX11_due 32 = .ok (.iaload, 1) := gdX11_due_29.2.2.2.1
theorem dX11_due_33 : decode cX11_due 33 = .ok (.istore_n 3, 1) := gdX11_due_29.2.2.2.2.1
theorem dX11_due_34 : decode cX11_due 34 = .ok (.bipush 24, 2) := gdX11_due_29.2.2.2.2.2.1
theorem dX11_due_36 : decode cX11_due 36 = .ok (.iload_n 2, 1) := gdX11_due_29.2.2.2.2.2.2.1
theorem dX11_due_37 : decode cX11_due 37 = .ok (.imul, 1) := gdX11_due_29.2.2.2.2.2.2.2.1
theorem dX11_due_38 : decode cX11_due 38 = .ok (.aload_n 0, 1) := gdX11_due_29.2.2.2.2.2.2.2.2.1
theorem dX11_due_39 : decode cX11_due 39 = .ok (.getfield 45, 3) := gdX11_due_29.2.2.2.2.2.2.2.2.2.1
theorem dX11_due_42 : decode cX11_due 42 = .ok (.bipush 10, 2) := gdX11_due_29.2.2.2.2.2.2.2.2.2.2.1
theorem dX11_due_44 : decode cX11_due 44 = .ok (.iconst 2, 1) := gdX11_due_29.2.2.2.2.2.2.2.2.2.2.2.1
theorem dX11_due_45 : decode cX11_due 45 = .ok (.iload_n 1, 1) := gdX11_due_29.2.2.2.2.2.2.2.2.2.2.2.2.1
theorem dX11_due_46 : decode cX11_due 46 = .ok (.imul, 1) := gdX11_due_29.2.2.2.2.2.2.2.2.2.2.2.2.2.1
theorem dX11_due_47 : decode cX11_due 47 = .ok (.iadd, 1) := gdX11_due_29.2.2.2.2.2.2.2.2.2.2.2.2.2.2.1
theorem dX11_due_48 : decode cX11_due 48 = .ok (.iconst 1, 1) := gdX11_due_29.2.2.2.2.2.2.2.2.2.2.2.2.2.2.2
theorem gdX11_due_49 : (decode cX11_due 49 = .ok (.iadd, 1)) ∧ (decode cX11_due 50 = .ok (.iaload, 1)) ∧ (decode cX11_due 51 = .ok (.imul, 1)) ∧ (decode cX11_due 52 = .ok (.iload_n 3, 1)) ∧ (decode cX11_due 53 = .ok (.iadd, 1)) ∧ (decode cX11_due 54 = .ok (.iconst 1, 1)) ∧ (decode cX11_due 55 = .ok (.isub, 1)) ∧ (decode cX11_due 56 = .ok (.iload_n 3, 1)) ∧ (decode cX11_due 57 = .ok (.idiv, 1)) ∧ (decode cX11_due 58 = .ok (.ireturn, 1)) := by decide +kernel
theorem dX11_due_49 : decode cX11_due 49 = .ok (.iadd, 1) := gdX11_due_49.1
theorem dX11_due_50 : decode cX11_due 50 = .ok (.iaload, 1) := gdX11_due_49.2.1
theorem dX11_due_51 : decode cX11_due 51 = .ok (.imul, 1) := gdX11_due_49.2.2.1
theorem dX11_due_52 : decode cX11_due 52 = .ok (.iload_n 3, 1) := gdX11_due_49.2.2.2.1
theorem dX11_due_53 : decode cX11_due 53 = .ok (.iadd, 1) := gdX11_due_49.2.2.2.2.1
theorem dX11_due_54 : decode cX11_due 54 = .ok (.iconst 1, 1) := gdX11_due_49.2.2.2.2.2.1
theorem dX11_due_55 : decode cX11_due 55 = .ok (.isub, 1) := gdX11_due_49.2.2.2.2.2.2.1
theorem dX11_due_56 : decode cX11_due 56 = .ok (.iload_n 3, 1) := gdX11_due_49.2.2.2.2.2.2.2.1
theorem dX11_due_57 : decode cX11_due 57 = .ok (.idiv, 1) := gdX11_due_49.2.2.2.2.2.2.2.2.1
theorem dX11_due_58 : decode cX11_due 58 = .ok (.ireturn, 1) := gdX11_due_49.2.2.2.2.2.2.2.2.2
theorem gdX11_isSpare_0 : (decode cX11_isSpare 0 = .ok (.iconst 0, 1)) ∧ (decode cX11_isSpare 1 = .ok (.istore_n 2, 1)) ∧ (decode cX11_isSpare 2 = .ok (.iload_n 2, 1)) ∧ (decode cX11_isSpare 3 = .ok (.bipush 10, 2)) ∧ (decode cX11_isSpare 5 = .ok (.if_icmp .ge 30, 3)) ∧ (decode cX11_isSpare 8 = .ok (.aload_n 0, 1)) ∧ (decode cX11_isSpare 9 = .ok (.getfield 63, 3)) ∧ (decode cX11_isSpare 12 = .ok (.iload_n 2, 1)) ∧ (decode cX11_isSpare 13 = .ok (.iload_n 2, 1)) ∧ (decode cX11_isSpare 14 = .ok (.aload_n 0, 1)) ∧ (decode cX11_isSpare 15 = .ok (.iload_n 1, 1)) ∧ (decode cX11_isSpare 16 = .ok (.iconst 0, 1)) ∧ (decode cX11_isSpare 17 = .ok (.invokevirtual 283, 3)) ∧ (decode cX11_isSpare 20 = .ok (.if_icmp .ne 7, 3)) ∧ (decode cX11_isSpare 23 = .ok (.iconst 1, 1)) ∧ (decode cX11_isSpare 24 = .ok (.goto 4, 3)) := by decide +kernel
theorem dX11_isSpare_0 : decode cX11_isSpare 0 = .ok (.iconst 0, 1) := gdX11_isSpare_0.1
theorem dX11_isSpare_1 : decode cX11_isSpare 1 = .ok (.istore_n 2, 1) := gdX11_isSpare_0.2.1
theorem dX11_isSpare_2 : decode cX11_isSpare 2 = .ok (.iload_n 2, 1) := gdX11_isSpare_0.2.2.1
theorem dX11_isSpare_3 : decode cX11_isSpare 3 = .ok (.bipush 10, 2) := gdX11_isSpare_0.2.2.2.1
theorem dX11_isSpare_5 : decode cX11_isSpare 5 = .ok (.if_icmp .ge 30, 3) := gdX11_isSpare_0.2.2.2.2.1
theorem dX11_isSpare_8 : decode cX11_isSpare 8 = .ok (.aload_n 0, 1) := gdX11_isSpare_0.2.2.2.2.2.1
theorem dX11_isSpare_9 : decode cX11_isSpare 9 = .ok (.getfield 63, 3) := gdX11_isSpare_0.2.2.2.2.2.2.1
theorem dX11_isSpare_12 : decode cX11_isSpare 12 = .ok (.iload_n 2, 1) := gdX11_isSpare_0.2.2.2.2.2.2.2.1
theorem dX11_isSpare_13 : decode cX11_isSpare 13 = .ok (.iload_n 2, 1) := gdX11_isSpare_0.2.2.2.2.2.2.2.2.1
theorem dX11_isSpare_14 : decode cX11_isSpare 14 = .ok (.aload_n 0, 1) := gdX11_isSpare_0.2.2.2.2.2.2.2.2.2.1
theorem dX11_isSpare_15 : decode cX11_isSpare 15 = .ok (.iload_n 1, 1) := gdX11_isSpare_0.2.2.2.2.2.2.2.2.2.2.1
theorem dX11_isSpare_16 : decode cX11_isSpare 16 = .ok (.iconst 0, 1) := gdX11_isSpare_0.2.2.2.2.2.2.2.2.2.2.2.1
theorem dX11_isSpare_17 : decode cX11_isSpare 17 = .ok (.invokevirtual 283, 3) := gdX11_isSpare_0.2.2.2.2.2.2.2.2.2.2.2.2.1
theorem dX11_isSpare_20 : decode cX11_isSpare 20 = .ok (.if_icmp .ne 7, 3) := gdX11_isSpare_0.2.2.2.2.2.2.2.2.2.2.2.2.2.1
theorem dX11_isSpare_23 : decode cX11_isSpare 23 = .ok (.iconst 1, 1) := gdX11_isSpare_0.2.2.2.2.2.2.2.2.2.2.2.2.2.2.1
theorem dX11_isSpare_24 : decode cX11_isSpare 24 = .ok (.goto 4, 3) := gdX11_isSpare_0.2.2.2.2.2.2.2.2.2.2.2.2.2.2.2
theorem gdX11_isSpare_27 : (decode cX11_isSpare 27 = .ok (.iconst 0, 1)) ∧ (decode cX11_isSpare 28 = .ok (.bastore, 1)) ∧ (decode cX11_isSpare 29 = .ok (.iinc 2 1, 3)) ∧ (decode cX11_isSpare 32 = .ok (.goto (-30), 3)) ∧ (decode cX11_isSpare 35 = .ok (.iconst 0, 1)) ∧ (decode cX11_isSpare 36 = .ok (.istore_n 2, 1)) ∧ (decode cX11_isSpare 37 = .ok (.iload_n 2, 1)) ∧ (decode cX11_isSpare 38 = .ok (.bipush 10, 2)) ∧ (decode cX11_isSpare 40 = .ok (.if_icmp .ge 87, 3)) ∧ (decode cX11_isSpare 43 = .ok (.iconst 0, 1)) ∧ (decode cX11_isSpare 44 = .ok (.istore_n 3, 1)) ∧ (decode cX11_isSpare 45 = .ok (.iload_n 3, 1)) ∧ (decode cX11_isSpare 46 = .ok (.aload_n 0, 1)) ∧ (decode cX11_isSpare 47 = .ok (.getfield 45, 3)) ∧ (decode cX11_isSpare 50 = .ok (.iconst 1, 1)) ∧ (decode cX11_isSpare 51 = .ok (.iaload, 1)) := by decide +kernel
theorem dX11_isSpare_27 : decode cX11_isSpare 27 = .ok (.iconst 0, 1) := gdX11_isSpare_27.1
theorem dX11_isSpare_28 : decode cX11_isSpare 28 = .ok (.bastore, 1) := gdX11_isSpare_27.2.1
theorem dX11_isSpare_29 : decode cX11_isSpare 29 = .ok (.iinc 2 1, 3) := gdX11_isSpare_27.2.2.1
theorem dX11_isSpare_32 : decode cX11_isSpare 32 = .ok (.goto (-30), 3) := gdX11_isSpare_27.2.2.2.1
theorem dX11_isSpare_35 : decode cX11_isSpare 35 = .ok (.iconst 0, 1) := gdX11_isSpare_27.2.2.2.2.1
theorem dX11_isSpare_36 : decode cX11_isSpare 36 = .ok (.istore_n 2, 1) := gdX11_isSpare_27.2.2.2.2.2.1
theorem dX11_isSpare_37 : decode cX11_isSpare 37 = .ok (.iload_n 2, 1) := gdX11_isSpare_27.2.2.2.2.2.2.1
theorem dX11_isSpare_38 : decode cX11_isSpare 38 = .ok (.bipush 10, 2) := gdX11_isSpare_27.2.2.2.2.2.2.2.1
theorem dX11_isSpare_40 : decode cX11_isSpare 40 = .ok (.if_icmp .ge 87, 3) := gdX11_isSpare_27.2.2.2.2.2.2.2.2.1
theorem dX11_isSpare_43 : decode cX11_isSpare 43 = .ok (.iconst 0, 1) := gdX11_isSpare_27.2.2.2.2.2.2.2.2.2.1
theorem dX11_isSpare_44 : decode cX11_isSpare 44 = .ok (.istore_n 3, 1) := gdX11_isSpare_27.2.2.2.2.2.2.2.2.2.2.1
theorem dX11_isSpare_45 : decode cX11_isSpare 45 = .ok (.iload_n 3, 1) := gdX11_isSpare_27.2.2.2.2.2.2.2.2.2.2.2.1
theorem dX11_isSpare_46 : decode cX11_isSpare 46 = .ok (.aload_n 0, 1) := gdX11_isSpare_27.2.2.2.2.2.2.2.2.2.2.2.2.1
theorem dX11_isSpare_47 : decode cX11_isSpare 47 = .ok (.getfield 45, 3) := gdX11_isSpare_27.2.2.2.2.2.2.2.2.2.2.2.2.2.1
theorem dX11_isSpare_50 : decode cX11_isSpare 50 = .ok (.iconst 1, 1) := gdX11_isSpare_27.2.2.2.2.2.2.2.2.2.2.2.2.2.2.1
theorem dX11_isSpare_51 : decode cX11_isSpare 51 = .ok (.iaload, 1) := gdX11_isSpare_27.2.2.2.2.2.2.2.2.2.2.2.2.2.2.2
theorem gdX11_isSpare_52 : (decode cX11_isSpare 52 = .ok (.if_icmp .ge 69, 3)) ∧ (decode cX11_isSpare 55 = .ok (.iload_n 3, 1)) ∧ (decode cX11_isSpare 56 = .ok (.iload_n 1, 1)) ∧ (decode cX11_isSpare 57 = .ok (.if_icmp .eq 58, 3)) ∧ (decode cX11_isSpare 60 = .ok (.aload_n 0, 1)) ∧ (decode cX11_isSpare 61 = .ok (.getfield 63, 3)) ∧ (decode cX11_isSpare 64 = .ok (.aload_n 0, 1)) ∧ (decode cX11_isSpare 65 = .ok (.iload_n 3, 1)) ∧ (decode cX11_isSpare 66 = .ok (.iconst 0, 1)) ∧ (decode cX11_isSpare 67 = .ok (.invokevirtual 283, 3)) ∧ (decode cX11_isSpare 70 = .ok (.baload, 1)) ∧ (decode cX11_isSpare 71 = .ok (.ifCond .ne 20, 3)) ∧ (decode cX11_isSpare 74 = .ok (.aload_n 0, 1)) ∧ (decode cX11_isSpare 75 = .ok (.getfield 63, 3)) ∧ (decode cX11_isSpare 78 = .ok (.aload_n 0, 1)) ∧ (decode cX11_isSpare 79 = .ok (.iload_n 3, 1)) := by decide +kernel
theorem dX11_isSpare_52 : decode cX11_isSpare 52 = .ok (.if_icmp .ge 69, 3) := gdX11_isSpare_52.1
theorem dX11_isSpare_55 : decode cX11_isSpare 55 = .ok (.iload_n 3, 1) := gdX11_isSpare_52.2.1
theorem dX11_isSpare_56 : decode cX11_isSpare 56 = .ok (.iload_n 1, 1) := gdX11_isSpare_52.2.2.1
theorem dX11_isSpare_57 : decode cX11_isSpare 57 = .ok (.if_icmp .eq 58, 3) := gdX11_isSpare_52.2.2.2.1
theorem dX11_isSpare_60 : decode cX11_isSpare 60 = .ok (.aload_n 0, 1) := gdX11_isSpare_52.2.2.2.2.1
theorem dX11_isSpare_61 : decode cX11_isSpare 61 = .ok (.getfield 63, 3) := gdX11_isSpare_52.2.2.2.2.2.1
theorem dX11_isSpare_64 : decode cX11_isSpare 64 = .ok (.aload_n 0, 1) := gdX11_isSpare_52.2.2.2.2.2.2.1
theorem dX11_isSpare_65 : decode cX11_isSpare 65 = .ok (.iload_n 3, 1) := gdX11_isSpare_52.2.2.2.2.2.2.2.1
theorem dX11_isSpare_66 : decode cX11_isSpare 66 = .ok (.iconst 0, 1) := gdX11_isSpare_52.2.2.2.2.2.2.2.2.1
theorem dX11_isSpare_67 : decode cX11_isSpare 67 = .ok (.invokevirtual 283, 3) := gdX11_isSpare_52.2.2.2.2.2.2.2.2.2.1
theorem dX11_isSpare_70 : decode cX11_isSpare 70 = .ok (.baload, 1) := gdX11_isSpare_52.2.2.2.2.2.2.2.2.2.2.1
theorem dX11_isSpare_71 : decode cX11_isSpare 71 = .ok (.ifCond .ne 20, 3) := gdX11_isSpare_52.2.2.2.2.2.2.2.2.2.2.2.1
theorem dX11_isSpare_74 : decode cX11_isSpare 74 = .ok (.aload_n 0, 1) := gdX11_isSpare_52.2.2.2.2.2.2.2.2.2.2.2.2.1
theorem dX11_isSpare_75 : decode cX11_isSpare 75 = .ok (.getfield 63, 3) := gdX11_isSpare_52.2.2.2.2.2.2.2.2.2.2.2.2.2.1
theorem dX11_isSpare_78 : decode cX11_isSpare 78 = .ok (.aload_n 0, 1) := gdX11_isSpare_52.2.2.2.2.2.2.2.2.2.2.2.2.2.2.1
theorem dX11_isSpare_79 : decode cX11_isSpare 79 = .ok (.iload_n 3, 1) := gdX11_isSpare_52.2.2.2.2.2.2.2.2.2.2.2.2.2.2.2
theorem gdX11_isSpare_80 : (decode cX11_isSpare 80 = .ok (.iconst 1, 1)) ∧ (decode cX11_isSpare 81 = .ok (.invokevirtual 283, 3)) ∧ (decode cX11_isSpare 84 = .ok (.baload, 1)) ∧ (decode cX11_isSpare 85 = .ok (.ifCond .ne 6, 3)) ∧ (decode cX11_isSpare 88 = .ok (.goto 27, 3)) ∧ (decode cX11_isSpare 91 = .ok (.aload_n 0, 1)) ∧ (decode cX11_isSpare 92 = .ok (.getfield 63, 3)) ∧ (decode cX11_isSpare 95 = .ok (.aload_n 0, 1)) ∧ (decode cX11_isSpare 96 = .ok (.iload_n 3, 1)) ∧ (decode cX11_isSpare 97 = .ok (.iconst 0, 1)) ∧ (decode cX11_isSpare 98 = .ok (.invokevirtual 283, 3)) ∧ (decode cX11_isSpare 101 = .ok (.iconst 1, 1)) ∧ (decode cX11_isSpare 102 = .ok (.bastore, 1)) ∧ (decode cX11_isSpare 103 = .ok (.aload_n 0, 1)) ∧ (decode cX11_isSpare 104 = .ok (.getfield 63, 3)) ∧ (decode cX11_isSpare 107 = .ok (.aload_n 0, 1)) := by decide +kernel
theorem dX11_isSpare_80 : decode cX11_isSpare 80 = .ok (.iconst 1, 1) := gdX11_isSpare_80.1
theorem dX11_isSpare_81 : decode cX11_isSpare 81 = .ok (.invokevirtual 283, 3) := gdX11_isSpare_80.2.1
theorem dX11_isSpare_84 : decode cX11_isSpare 84 = .ok (.baload, 1) := gdX11_isSpare_80.2.2.1
theorem dX11_isSpare_85 : decode cX11_isSpare 85 = .ok (.ifCond .ne 6, 3) := gdX11_isSpare_80.2.2.2.1
theorem dX11_isSpare_88 : decode cX11_isSpare 88 = .ok (.goto 27, 3) := gdX11_isSpare_80.2.2.2.2.1
theorem dX11_isSpare_91 : decode cX11_isSpare 91 = .ok (.aload_n 0, 1) := gdX11_isSpare_80.2.2.2.2.2.1
theorem dX11_isSpare_92 : decode cX11_isSpare 92 = .ok (.getfield 63, 3) := gdX11_isSpare_80.2.2.2.2.2.2.1
theorem dX11_isSpare_95 : decode cX11_isSpare 95 = .ok (.aload_n 0, 1) := gdX11_isSpare_80.2.2.2.2.2.2.2.1
theorem dX11_isSpare_96 : decode cX11_isSpare 96 = .ok (.iload_n 3, 1) := gdX11_isSpare_80.2.2.2.2.2.2.2.2.1
theorem dX11_isSpare_97 : decode cX11_isSpare 97 = .ok (.iconst 0, 1) := gdX11_isSpare_80.2.2.2.2.2.2.2.2.2.1
theorem dX11_isSpare_98 : decode cX11_isSpare 98 = .ok (.invokevirtual 283, 3) := gdX11_isSpare_80.2.2.2.2.2.2.2.2.2.2.1
theorem dX11_isSpare_101 : decode cX11_isSpare 101 = .ok (.iconst 1, 1) := gdX11_isSpare_80.2.2.2.2.2.2.2.2.2.2.2.1
theorem dX11_isSpare_102 : decode cX11_isSpare 102 = .ok (.bastore, 1) := gdX11_isSpare_80.2.2.2.2.2.2.2.2.2.2.2.2.1
theorem dX11_isSpare_103 : decode cX11_isSpare 103 = .ok (.aload_n 0, 1) := gdX11_isSpare_80.2.2.2.2.2.2.2.2.2.2.2.2.2.1
theorem dX11_isSpare_104 : decode cX11_isSpare 104 = .ok (.getfield 63, 3) := gdX11_isSpare_80.2.2.2.2.2.2.2.2.2.2.2.2.2.2.1
theorem dX11_isSpare_107 : decode cX11_isSpare 107 = .ok (.aload_n 0, 1) := gdX11_isSpare_80.2.2.2.2.2.2.2.2.2.2.2.2.2.2.2
theorem gdX11_isSpare_108 : (decode cX11_isSpare 108 = .ok (.iload_n 3, 1)) ∧ (decode cX11_isSpare 109 = .ok (.iconst 1, 1)) ∧ (decode cX11_isSpare 110 = .ok (.invokevirtual 283, 3)) ∧ (decode cX11_isSpare 113 = .ok (.iconst 1, 1)) ∧ (decode cX11_isSpare 114 = .ok (.bastore, 1)) ∧ (decode cX11_isSpare 115 = .ok (.iinc 3 1, 3)) ∧ (decode cX11_isSpare 118 = .ok (.goto (-73), 3)) ∧ (decode cX11_isSpare 121 = .ok (.iinc 2 1, 3)) ∧ (decode cX11_isSpare 124 = .ok (.goto (-87), 3)) ∧ (decode cX11_isSpare 127 = .ok (.aload_n 0, 1)) ∧ (decode cX11_isSpare 128 = .ok (.getfield 63, 3)) ∧ (decode cX11_isSpare 131 = .ok (.aload_n 0, 1)) ∧ (decode cX11_isSpare 132 = .ok (.iload_n 1, 1)) ∧ (decode cX11_isSpare 133 = .ok (.iconst 1, 1)) ∧ (decode cX11_isSpare 134 = .ok (.invokevirtual 283, 3)) ∧ (decode cX11_isSpare 137 = .ok (.baload, 1)) := by decide +kernel
theorem dX11_isSpare_108 : decode cX11_isSpare 108 = .ok (.iload_n 3, 1) := gdX11_isSpare_108.1
theorem dX11_isSpare_109 : decode cX11_isSpare 109 = .ok (.iconst 1, 1) := gdX11_isSpare_108.2.1
theorem dX11_isSpare_110 : decode cX11_isSpare 110 = .ok (.invokevirtual 283, 3) := gdX11_isSpare_108.2.2.1
theorem dX11_isSpare_113 : decode cX11_isSpare 113 = .ok (.iconst 1, 1) := gdX11_isSpare_108.2.2.2.1
theorem dX11_isSpare_114 : decode cX11_isSpare 114 = .ok (.bastore, 1) := gdX11_isSpare_108.2.2.2.2.1
theorem dX11_isSpare_115 : decode cX11_isSpare 115 = .ok (.iinc 3 1, 3) := gdX11_isSpare_108.2.2.2.2.2.1
theorem dX11_isSpare_118 : decode cX11_isSpare 118 = .ok (.goto (-73), 3) := gdX11_isSpare_108.2.2.2.2.2.2.1
theorem dX11_isSpare_121 : decode cX11_isSpare 121 = .ok (.iinc 2 1, 3) := gdX11_isSpare_108.2.2.2.2.2.2.2.1
theorem dX11_isSpare_124 : decode cX11_isSpare 124 = .ok (.goto (-87), 3) := gdX11_isSpare_108.2.2.2.2.2.2.2.2.1
theorem dX11_isSpare_127 : decode cX11_isSpare 127 = .ok (.aload_n 0, 1) := gdX11_isSpare_108.2.2.2.2.2.2.2.2.2.1
theorem dX11_isSpare_128 : decode cX11_isSpare 128 = .ok (.getfield 63, 3) := gdX11_isSpare_108.2.2.2.2.2.2.2.2.2.2.1
theorem dX11_isSpare_131 : decode cX11_isSpare 131 = .ok (.aload_n 0, 1) := gdX11_isSpare_108.2.2.2.2.2.2.2.2.2.2.2.1
theorem dX11_isSpare_132 : decode cX11_isSpare 132 = .ok (.iload_n 1, 1) := gdX11_isSpare_108.2.2.2.2.2.2.2.2.2.2.2.2.1
theorem dX11_isSpare_133 : decode cX11_isSpare 133 = .ok (.iconst 1, 1) := gdX11_isSpare_108.2.2.2.2.2.2.2.2.2.2.2.2.2.1
theorem dX11_isSpare_134 : decode cX11_isSpare 134 = .ok (.invokevirtual 283, 3) := gdX11_isSpare_108.2.2.2.2.2.2.2.2.2.2.2.2.2.2.1
theorem dX11_isSpare_137 : decode cX11_isSpare 137 = .ok (.baload, 1) := gdX11_isSpare_108.2.2.2.2.2.2.2.2.2.2.2.2.2.2.2
theorem dX11_isSpare_138 : decode cX11_isSpare 138 = .ok (.ireturn, 1) := by decide +kernel
theorem gdX11_needed_0 : (decode cX11_needed 0 = .ok (.iconst 0, 1)) ∧ (decode cX11_needed 1 = .ok (.istore_n 1, 1)) ∧ (decode cX11_needed 2 = .ok (.iconst 0, 1)) ∧ (decode cX11_needed 3 = .ok (.istore_n 2, 1)) ∧ (decode cX11_needed 4 = .ok (.iload_n 2, 1)) ∧ (decode cX11_needed 5 = .ok (.aload_n 0, 1)) ∧ (decode cX11_needed 6 = .ok (.getfield 45, 3)) ∧ (decode cX11_needed 9 = .ok (.iconst 1, 1)) ∧ (decode cX11_needed 10 = .ok (.iaload, 1)) ∧ (decode cX11_needed 11 = .ok (.if_icmp .ge 27, 3)) ∧ (decode cX11_needed 14 = .ok (.iload_n 1, 1)) ∧ (decode cX11_needed 15 = .ok (.aload_n 0, 1)) ∧ (decode cX11_needed 16 = .ok (.iload_n 2, 1)) ∧ (decode cX11_needed 17 = .ok (.invokevirtual 390, 3)) ∧ (decode cX11_needed 20 = .ok (.ifCond .eq 7, 3)) ∧ (decode cX11_needed 23 = .ok (.iconst 0, 1)) := by decide +kernel
theorem dX11_needed_0 : decode cX11_needed 0 = .ok (.iconst 0, 1) := gdX11_needed_0.1
theorem dX11_needed_1 : decode cX11_needed 1 = .ok (.istore_n 1, 1) := gdX11_needed_0.2.1
theorem dX11_needed_2 : decode cX11_needed 2 = .ok (.iconst 0, 1) := gdX11_needed_0.2.2.1
theorem dX11_needed_3 : decode cX11_needed 3 = .ok (.istore_n 2, 1) := gdX11_needed_0.2.2.2.1
theorem dX11_needed_4 : decode cX11_needed 4 = .ok (.iload_n 2, 1) := gdX11_needed_0.2.2.2.2.1
theorem dX11_needed_5 : decode cX11_needed 5 = .ok (.aload_n 0, 1) := gdX11_needed_0.2.2.2.2.2.1
theorem dX11_needed_6 : decode cX11_needed 6 = .ok (.getfield 45, 3) := gdX11_needed_0.2.2.2.2.2.2.1
theorem dX11_needed_9 : decode cX11_needed 9 = .ok (.iconst 1, 1) := gdX11_needed_0.2.2.2.2.2.2.2.1
theorem dX11_needed_10 : decode cX11_needed 10 = .ok (.iaload, 1) := gdX11_needed_0.2.2.2.2.2.2.2.2.1
theorem dX11_needed_11 : decode cX11_needed 11 = .ok (.if_icmp .ge 27, 3) := gdX11_needed_0.2.2.2.2.2.2.2.2.2.1
theorem dX11_needed_14 : decode cX11_needed 14 = .ok (.iload_n 1, 1) := gdX11_needed_0.2.2.2.2.2.2.2.2.2.2.1
theorem dX11_needed_15 : decode cX11_needed 15 = .ok (.aload_n 0, 1) := gdX11_needed_0.2.2.2.2.2.2.2.2.2.2.2.1
theorem dX11_needed_16 : decode cX11_needed 16 = .ok (.iload_n 2, 1) := gdX11_needed_0.2.2.2.2.2.2.2.2.2.2.2.2.1
theorem dX11_needed_17 : decode cX11_needed 17 = .ok (.invokevirtual 390, 3) := gdX11_needed_0.2.2.2.2.2.2.2.2.2.2.2.2.2.1
theorem dX11_needed_20 : decode cX11_needed 20 = .ok (.ifCond .eq 7, 3) := gdX11_needed_0.2.2.2.2.2.2.2.2.2.2.2.2.2.2.1
theorem dX11_needed_23 : decode cX11_needed 23 = .ok (.iconst 0, 1) := gdX11_needed_0.2.2.2.2.2.2.2.2.2.2.2.2.2.2.2
theorem gdX11_needed_24 : (decode cX11_needed 24 = .ok (.goto 6, 3)) ∧ (decode cX11_needed 27 = .ok (.iconst 1, 1)) ∧ (decode cX11_needed 28 = .ok (.iload_n 2, 1)) ∧ (decode cX11_needed 29 = .ok (.ishl, 1)) ∧ (decode cX11_needed 30 = .ok (.ior, 1)) ∧ (decode cX11_needed 31 = .ok (.istore_n 1, 1)) ∧ (decode cX11_needed 32 = .ok (.iinc 2 1, 3)) ∧ (decode cX11_needed 35 = .ok (.goto (-31), 3)) ∧ (decode cX11_needed 38 = .ok (.iload_n 1, 1)) ∧ (decode cX11_needed 39 = .ok (.ireturn, 1)) := by decide +kernel
theorem dX11_needed_24 : decode cX11_needed 24 = .ok (.goto 6, 3) := gdX11_needed_24.1
theorem dX11_needed_27 : decode cX11_needed 27 = .ok (.iconst 1, 1) := gdX11_needed_24.2.1
theorem dX11_needed_28 : decode cX11_needed 28 = .ok (.iload_n 2, 1) := gdX11_needed_24.2.2.1
theorem dX11_needed_29 : decode cX11_needed 29 = .ok (.ishl, 1) := gdX11_needed_24.2.2.2.1
theorem dX11_needed_30 : decode cX11_needed 30 = .ok (.ior, 1) := gdX11_needed_24.2.2.2.2.1
theorem dX11_needed_31 : decode cX11_needed 31 = .ok (.istore_n 1, 1) := gdX11_needed_24.2.2.2.2.2.1
theorem dX11_needed_32 : decode cX11_needed 32 = .ok (.iinc 2 1, 3) := gdX11_needed_24.2.2.2.2.2.2.1
theorem dX11_needed_35 : decode cX11_needed 35 = .ok (.goto (-31), 3) := gdX11_needed_24.2.2.2.2.2.2.2.1
theorem dX11_needed_38 : decode cX11_needed 38 = .ok (.iload_n 1, 1) := gdX11_needed_24.2.2.2.2.2.2.2.2.1
theorem dX11_needed_39 : decode cX11_needed 39 = .ok (.ireturn, 1) := gdX11_needed_24.2.2.2.2.2.2.2.2.2
theorem gdX11_elder_0 : (decode cX11_elder 0 = .ok (.iload_n 1, 1)) ∧ (decode cX11_elder 1 = .ok (.iconst (-1), 1)) ∧ (decode cX11_elder 2 = .ok (.if_icmp .eq 11, 3)) ∧ (decode cX11_elder 5 = .ok (.aload_n 0, 1)) ∧ (decode cX11_elder 6 = .ok (.iload_n 1, 1)) ∧ (decode cX11_elder 7 = .ok (.invokevirtual 349, 3)) ∧ (decode cX11_elder 10 = .ok (.ifCond .eq 36, 3)) ∧ (decode cX11_elder 13 = .ok (.iload_n 2, 1)) ∧ (decode cX11_elder 14 = .ok (.i2l, 1)) ∧ (decode cX11_elder 15 = .ok (.lconst 0, 1)) ∧ (decode cX11_elder 16 = .ok (.ldc2_w 352, 3)) ∧ (decode cX11_elder 19 = .ok (.invokestatic 131, 3)) ∧ (decode cX11_elder 22 = .ok (.ifCond .eq 24, 3)) ∧ (decode cX11_elder 25 = .ok (.iload_n 3, 1)) ∧ (decode cX11_elder 26 = .ok (.i2l, 1)) ∧ (decode cX11_elder 27 = .ok (.lconst 0, 1)) := by decide +kernel
theorem dX11_elder_0 : decode cX11_elder 0 = .ok (.iload_n 1, 1) := gdX11_elder_0.1
theorem dX11_elder_1 : decode cX11_elder 1 = .ok (.iconst (-1), 1) := gdX11_elder_0.2.1
theorem dX11_elder_2 : decode cX11_elder 2 = .ok (.if_icmp .eq 11, 3) := gdX11_elder_0.2.2.1
theorem dX11_elder_5 : decode cX11_elder 5 = .ok (.aload_n 0, 1) := gdX11_elder_0.2.2.2.1
theorem dX11_elder_6 : decode cX11_elder 6 = .ok (.iload_n 1, 1) := gdX11_elder_0.2.2.2.2.1
theorem dX11_elder_7 : decode cX11_elder 7 = .ok (.invokevirtual 349, 3) := gdX11_elder_0.2.2.2.2.2.1
theorem dX11_elder_10 : decode cX11_elder 10 = .ok (.ifCond .eq 36, 3) := gdX11_elder_0.2.2.2.2.2.2.1
theorem dX11_elder_13 : decode cX11_elder 13 = .ok (.iload_n 2, 1) := gdX11_elder_0.2.2.2.2.2.2.2.1
theorem dX11_elder_14 : decode cX11_elder 14 = .ok (.i2l, 1) := gdX11_elder_0.2.2.2.2.2.2.2.2.1
theorem dX11_elder_15 : decode cX11_elder 15 = .ok (.lconst 0, 1) := gdX11_elder_0.2.2.2.2.2.2.2.2.2.1
theorem dX11_elder_16 : decode cX11_elder 16 = .ok (.ldc2_w 352, 3) := gdX11_elder_0.2.2.2.2.2.2.2.2.2.2.1
theorem dX11_elder_19 : decode cX11_elder 19 = .ok (.invokestatic 131, 3) := gdX11_elder_0.2.2.2.2.2.2.2.2.2.2.2.1
theorem dX11_elder_22 : decode cX11_elder 22 = .ok (.ifCond .eq 24, 3) := gdX11_elder_0.2.2.2.2.2.2.2.2.2.2.2.2.1
theorem dX11_elder_25 : decode cX11_elder 25 = .ok (.iload_n 3, 1) := gdX11_elder_0.2.2.2.2.2.2.2.2.2.2.2.2.2.1
theorem dX11_elder_26 : decode cX11_elder 26 = .ok (.i2l, 1) := gdX11_elder_0.2.2.2.2.2.2.2.2.2.2.2.2.2.2.1
theorem dX11_elder_27 : decode cX11_elder 27 = .ok (.lconst 0, 1) := gdX11_elder_0.2.2.2.2.2.2.2.2.2.2.2.2.2.2.2
theorem gdX11_elder_28 : (decode cX11_elder 28 = .ok (.ldc2_w 319, 3)) ∧ (decode cX11_elder 31 = .ok (.invokestatic 131, 3)) ∧ (decode cX11_elder 34 = .ok (.ifCond .eq 12, 3)) ∧ (decode cX11_elder 37 = .ok (.aload_n 0, 1)) ∧ (decode cX11_elder 38 = .ok (.getfield 45, 3)) ∧ (decode cX11_elder 41 = .ok (.iconst 2, 1)) ∧ (decode cX11_elder 42 = .ok (.iaload, 1)) ∧ (decode cX11_elder 43 = .ok (.ifCond .ne 7, 3)) ∧ (decode cX11_elder 46 = .ok (.ldc2_w 321, 3)) ∧ (decode cX11_elder 49 = .ok (.lreturn, 1)) ∧ (decode cX11_elder 50 = .ok (.aload_n 0, 1)) ∧ (decode cX11_elder 51 = .ok (.invokevirtual 357, 3)) ∧ (decode cX11_elder 54 = .ok (.iconst 0, 1)) ∧ (decode cX11_elder 55 = .ok (.istore 4, 2)) ∧ (decode cX11_elder 57 = .ok (.iload 4, 2)) ∧ (decode cX11_elder 59 = .ok (.iload_n 2, 1)) := by decide +kernel
theorem dX11_elder_28 : decode cX11_elder 28 = .ok (.ldc2_w 319, 3) := gdX11_elder_28.1
theorem dX11_elder_31 : decode cX11_elder 31 = .ok (.invokestatic 131, 3) := gdX11_elder_28.2.1
theorem dX11_elder_34 : decode cX11_elder 34 = .ok (.ifCond .eq 12, 3) := gdX11_elder_28.2.2.1
theorem dX11_elder_37 : decode cX11_elder 37 = .ok (.aload_n 0, 1) := gdX11_elder_28.2.2.2.1
theorem dX11_elder_38 : decode cX11_elder 38 = .ok (.getfield 45, 3) := gdX11_elder_28.2.2.2.2.1
theorem dX11_elder_41 : decode cX11_elder 41 = .ok (.iconst 2, 1) := gdX11_elder_28.2.2.2.2.2.1
theorem dX11_elder_42 : decode cX11_elder 42 = .ok (.iaload, 1) := gdX11_elder_28.2.2.2.2.2.2.1
theorem dX11_elder_43 : decode cX11_elder 43 = .ok (.ifCond .ne 7, 3) := gdX11_elder_28.2.2.2.2.2.2.2.1
theorem dX11_elder_46 : decode cX11_elder 46 = .ok (.ldc2_w 321, 3) := gdX11_elder_28.2.2.2.2.2.2.2.2.1
theorem dX11_elder_49 : decode cX11_elder 49 = .ok (.lreturn, 1) := gdX11_elder_28.2.2.2.2.2.2.2.2.2.1
theorem dX11_elder_50 : decode cX11_elder 50 = .ok (.aload_n 0, 1) := gdX11_elder_28.2.2.2.2.2.2.2.2.2.2.1
theorem dX11_elder_51 : decode cX11_elder 51 = .ok (.invokevirtual 357, 3) := gdX11_elder_28.2.2.2.2.2.2.2.2.2.2.2.1
theorem dX11_elder_54 : decode cX11_elder 54 = .ok (.iconst 0, 1) := gdX11_elder_28.2.2.2.2.2.2.2.2.2.2.2.2.1
theorem dX11_elder_55 : decode cX11_elder 55 = .ok (.istore 4, 2) := gdX11_elder_28.2.2.2.2.2.2.2.2.2.2.2.2.2.1
theorem dX11_elder_57 : decode cX11_elder 57 = .ok (.iload 4, 2) := gdX11_elder_28.2.2.2.2.2.2.2.2.2.2.2.2.2.2.1
theorem dX11_elder_59 : decode cX11_elder 59 = .ok (.iload_n 2, 1) := gdX11_elder_28.2.2.2.2.2.2.2.2.2.2.2.2.2.2.2
theorem gdX11_elder_60 : (decode cX11_elder 60 = .ok (.if_icmp .ge 14, 3)) ∧ (decode cX11_elder 63 = .ok (.aload_n 0, 1)) ∧ (decode cX11_elder 64 = .ok (.iload_n 1, 1)) ∧ (decode cX11_elder 65 = .ok (.invokevirtual 354, 3)) ∧ (decode cX11_elder 68 = .ok (.iinc 4 1, 3)) ∧ (decode cX11_elder 71 = .ok (.goto (-14), 3)) ∧ (decode cX11_elder 74 = .ok (.iconst 0, 1)) ∧ (decode cX11_elder 75 = .ok (.istore 4, 2)) ∧ (decode cX11_elder 77 = .ok (.iconst 0, 1)) ∧ (decode cX11_elder 78 = .ok (.istore 5, 2)) ∧ (decode cX11_elder 80 = .ok (.iconst 1, 1)) ∧ (decode cX11_elder 81 = .ok (.istore 6, 2)) ∧ (decode cX11_elder 83 = .ok (.iload 6, 2)) ∧ (decode cX11_elder 85 = .ok (.aload_n 0, 1)) ∧ (decode cX11_elder 86 = .ok (.getfield 45, 3)) ∧ (decode cX11_elder 89 = .ok (.iconst 2, 1)) := by decide +kernel
theorem dX11_elder_60 : decode cX11_elder 60 = .ok (.if_icmp .ge 14, 3) := gdX11_elder_60.1
theorem dX11_elder_63 : decode cX11_elder 63 = .ok (.aload_n 0, 1) := gdX11_elder_60.2.1
theorem dX11_elder_64 : decode cX11_elder 64 = .ok (.iload_n 1, 1) := gdX11_elder_60.2.2.1
theorem dX11_elder_65 : decode cX11_elder 65 = .ok (.invokevirtual 354, 3) := gdX11_elder_60.2.2.2.1
theorem dX11_elder_68 : decode cX11_elder 68 = .ok (.iinc 4 1, 3) := gdX11_elder_60.2.2.2.2.1
theorem dX11_elder_71 : decode cX11_elder 71 = .ok (.goto (-14), 3) := gdX11_elder_60.2.2.2.2.2.1
theorem dX11_elder_74 : decode cX11_elder 74 = .ok (.iconst 0, 1) := gdX11_elder_60.2.2.2.2.2.2.1
theorem dX11_elder_75 : decode cX11_elder 75 = .ok (.istore 4, 2) := gdX11_elder_60.2.2.2.2.2.2.2.1
theorem dX11_elder_77 : decode cX11_elder 77 = .ok (.iconst 0, 1) := gdX11_elder_60.2.2.2.2.2.2.2.2.1
theorem dX11_elder_78 : decode cX11_elder 78 = .ok (.istore 5, 2) := gdX11_elder_60.2.2.2.2.2.2.2.2.2.1
theorem dX11_elder_80 : decode cX11_elder 80 = .ok (.iconst 1, 1) := gdX11_elder_60.2.2.2.2.2.2.2.2.2.2.1
theorem dX11_elder_81 : decode cX11_elder 81 = .ok (.istore 6, 2) := gdX11_elder_60.2.2.2.2.2.2.2.2.2.2.2.1
theorem dX11_elder_83 : decode cX11_elder 83 = .ok (.iload 6, 2) := gdX11_elder_60.2.2.2.2.2.2.2.2.2.2.2.2.1
theorem dX11_elder_85 : decode cX11_elder 85 = .ok (.aload_n 0, 1) := gdX11_elder_60.2.2.2.2.2.2.2.2.2.2.2.2.2.1
theorem dX11_elder_86 : decode cX11_elder 86 = .ok (.getfield 45, 3) := gdX11_elder_60.2.2.2.2.2.2.2.2.2.2.2.2.2.2.1
theorem dX11_elder_89 : decode cX11_elder 89 = .ok (.iconst 2, 1) := gdX11_elder_60.2.2.2.2.2.2.2.2.2.2.2.2.2.2.2
theorem gdX11_elder_90 : (decode cX11_elder 90 = .ok (.iaload, 1)) ∧ (decode cX11_elder 91 = .ok (.if_icmp .ge 63, 3)) ∧ (decode cX11_elder 94 = .ok (.aload_n 0, 1)) ∧ (decode cX11_elder 95 = .ok (.getfield 48, 3)) ∧ (decode cX11_elder 98 = .ok (.iload 6, 2)) ∧ (decode cX11_elder 100 = .ok (.laload, 1)) ∧ (decode cX11_elder 101 = .ok (.aload_n 0, 1)) ∧ (decode cX11_elder 102 = .ok (.getfield 48, 3)) ∧ (decode cX11_elder 105 = .ok (.iload 4, 2)) ∧ (decode cX11_elder 107 = .ok (.laload, 1)) ∧ (decode cX11_elder 108 = .ok (.lcmp, 1)) ∧ (decode cX11_elder 109 = .ok (.ifCond .le 8, 3)) ∧ (decode cX11_elder 112 = .ok (.iload 6, 2)) ∧ (decode cX11_elder 114 = .ok (.goto 5, 3)) ∧ (decode cX11_elder 117 = .ok (.iload 4, 2)) ∧ (decode cX11_elder 119 = .ok (.istore 4, 2)) := by decide +kernel
theorem dX11_elder_90 : decode cX11_elder 90 = .ok (.iaload, 1) := gdX11_elder_90.1
theorem dX11_elder_91 : decode cX11_elder 91 = .ok (.if_icmp .ge 63, 3) := gdX11_elder_90.2.1
theorem dX11_elder_94 : decode cX11_elder 94 = .ok (.aload_n 0, 1) := gdX11_elder_90.2.2.1
theorem dX11_elder_95 : decode cX11_elder 95 = .ok (.getfield 48, 3) := gdX11_elder_90.2.2.2.1
theorem dX11_elder_98 : decode cX11_elder 98 = .ok (.iload 6, 2) := gdX11_elder_90.2.2.2.2.1
theorem dX11_elder_100 : decode cX11_elder 100 = .ok (.laload, 1) := gdX11_elder_90.2.2.2.2.2.1
theorem dX11_elder_101 : decode cX11_elder 101 = .ok (.aload_n 0, 1) := gdX11_elder_90.2.2.2.2.2.2.1
theorem dX11_elder_102 : decode cX11_elder 102 = .ok (.getfield 48, 3) := gdX11_elder_90.2.2.2.2.2.2.2.1
theorem dX11_elder_105 : decode cX11_elder 105 = .ok (.iload 4, 2) := gdX11_elder_90.2.2.2.2.2.2.2.2.1
theorem dX11_elder_107 : decode cX11_elder 107 = .ok (.laload, 1) := gdX11_elder_90.2.2.2.2.2.2.2.2.2.1
theorem dX11_elder_108 : decode cX11_elder 108 = .ok (.lcmp, 1) := gdX11_elder_90.2.2.2.2.2.2.2.2.2.2.1
theorem dX11_elder_109 : decode cX11_elder 109 = .ok (.ifCond .le 8, 3) := gdX11_elder_90.2.2.2.2.2.2.2.2.2.2.2.1
theorem dX11_elder_112 : decode cX11_elder 112 = .ok (.iload 6, 2) := gdX11_elder_90.2.2.2.2.2.2.2.2.2.2.2.2.1
theorem dX11_elder_114 : decode cX11_elder 114 = .ok (.goto 5, 3) := gdX11_elder_90.2.2.2.2.2.2.2.2.2.2.2.2.2.1
theorem dX11_elder_117 : decode cX11_elder 117 = .ok (.iload 4, 2) := gdX11_elder_90.2.2.2.2.2.2.2.2.2.2.2.2.2.2.1
theorem dX11_elder_119 : decode cX11_elder 119 = .ok (.istore 4, 2) := gdX11_elder_90.2.2.2.2.2.2.2.2.2.2.2.2.2.2.2
theorem gdX11_elder_121 : (decode cX11_elder 121 = .ok (.aload_n 0, 1)) ∧ (decode cX11_elder 122 = .ok (.getfield 48, 3)) ∧ (decode cX11_elder 125 = .ok (.iload 6, 2)) ∧ (decode cX11_elder 127 = .ok (.laload, 1)) ∧ (decode cX11_elder 128 = .ok (.aload_n 0, 1)) ∧ (decode cX11_elder 129 = .ok (.getfield 48, 3)) ∧ (decode cX11_elder 132 = .ok (.iload 5, 2)) ∧ (decode cX11_elder 134 = .ok (.laload, 1)) ∧ (decode cX11_elder 135 = .ok (.lcmp, 1)) ∧ (decode cX11_elder 136 = .ok (.ifCond .ge 8, 3)) ∧ (decode cX11_elder 139 = .ok (.iload 6, 2)) ∧ (decode cX11_elder 141 = .ok (.goto 5, 3)) ∧ (decode cX11_elder 144 = .ok (.iload 5, 2)) ∧ (decode cX11_elder 146 = .ok (.istore 5, 2)) ∧ (decode cX11_elder 148 = .ok (.iinc 6 1, 3)) ∧ (decode cX11_elder 151 = .ok (.goto (-68), 3)) := by decide +kernel
theorem dX11_elder_121 : decode cX11_elder 121 = .ok (.aload_n 0, 1) := gdX11_elder_121.1
theorem dX11_elder_122 : decode cX11_elder 122 = .ok (.getfield 48, 3) := gdX11_elder_121.2.1
theorem dX11_elder_125 : decode cX11_elder 125 = .ok (.iload 6, 2) := gdX11_elder_121.2.2.1
theorem dX11_elder_127 : decode cX11_elder 127 = .ok (.laload, 1) := gdX11_elder_121.2.2.2.1
theorem dX11_elder_128 : decode cX11_elder 128 = .ok (.aload_n 0, 1) := gdX11_elder_121.2.2.2.2.1
theorem dX11_elder_129 : decode cX11_elder 129 = .ok (.getfield 48, 3) := gdX11_elder_121.2.2.2.2.2.1
theorem dX11_elder_132 : decode cX11_elder 132 = .ok (.iload 5, 2) := gdX11_elder_121.2.2.2.2.2.2.1
theorem dX11_elder_134 : decode cX11_elder 134 = .ok (.laload, 1) := gdX11_elder_121.2.2.2.2.2.2.2.1
theorem dX11_elder_135 : decode cX11_elder 135 = .ok (.lcmp, 1) := gdX11_elder_121.2.2.2.2.2.2.2.2.1
theorem dX11_elder_136 : decode cX11_elder 136 = .ok (.ifCond .ge 8, 3) := gdX11_elder_121.2.2.2.2.2.2.2.2.2.1
theorem dX11_elder_139 : decode cX11_elder 139 = .ok (.iload 6, 2) := gdX11_elder_121.2.2.2.2.2.2.2.2.2.2.1
theorem dX11_elder_141 : decode cX11_elder 141 = .ok (.goto 5, 3) := gdX11_elder_121.2.2.2.2.2.2.2.2.2.2.2.1
theorem dX11_elder_144 : decode cX11_elder 144 = .ok (.iload 5, 2) := gdX11_elder_121.2.2.2.2.2.2.2.2.2.2.2.2.1
theorem dX11_elder_146 : decode cX11_elder 146 = .ok (.istore 5, 2) := gdX11_elder_121.2.2.2.2.2.2.2.2.2.2.2.2.2.1
theorem dX11_elder_148 : decode cX11_elder 148 = .ok (.iinc 6 1, 3) := gdX11_elder_121.2.2.2.2.2.2.2.2.2.2.2.2.2.2.1
theorem dX11_elder_151 : decode cX11_elder 151 = .ok (.goto (-68), 3) := gdX11_elder_121.2.2.2.2.2.2.2.2.2.2.2.2.2.2.2
theorem gdX11_elder_154 : (decode cX11_elder 154 = .ok (.iload_n 3, 1)) ∧ (decode cX11_elder 155 = .ok (.ifCond .ne 9, 3)) ∧ (decode cX11_elder 158 = .ok (.iload 4, 2)) ∧ (decode cX11_elder 160 = .ok (.i2l, 1)) ∧ (decode cX11_elder 161 = .ok (.goto 38, 3)) ∧ (decode cX11_elder 164 = .ok (.iload_n 3, 1)) ∧ (decode cX11_elder 165 = .ok (.iconst 1, 1)) ∧ (decode cX11_elder 166 = .ok (.if_icmp .ne 9, 3)) ∧ (decode cX11_elder 169 = .ok (.iload 5, 2)) ∧ (decode cX11_elder 171 = .ok (.i2l, 1)) ∧ (decode cX11_elder 172 = .ok (.goto 27, 3)) ∧ (decode cX11_elder 175 = .ok (.aload_n 0, 1)) ∧ (decode cX11_elder 176 = .ok (.getfield 48, 3)) ∧ (decode cX11_elder 179 = .ok (.iload 4, 2)) ∧ (decode cX11_elder 181 = .ok (.laload, 1)) ∧ (decode cX11_elder 182 = .ok (.aload_n 0, 1)) := by decide +kernel
theorem dX11_elder_154 : decode cX11_elder 154 = .ok (.iload_n 3, 1) := gdX11_elder_154.1
theorem dX11_elder_155 : decode cX11_elder 155 = .ok (.ifCond .ne 9, 3) := gdX11_elder_154.2.1
theorem dX11_elder_158 : decode cX11_elder 158 = .ok (.iload 4, 2) := gdX11_elder_154.2.2.1
theorem dX11_elder_160 : decode cX11_elder 160 = .ok (.i2l, 1) := gdX11_elder_154.2.2.2.1
theorem dX11_elder_161 : decode cX11_elder 161 = .ok (.goto 38, 3) := gdX11_elder_154.2.2.2.2.1
theorem dX11_elder_164 : decode cX11_elder 164 = .ok (.iload_n 3, 1) := gdX11_elder_154.2.2.2.2.2.1
theorem dX11_elder_165 : decode cX11_elder 165 = .ok (.iconst 1, 1) := gdX11_elder_154.2.2.2.2.2.2.1
theorem dX11_elder_166 : decode cX11_elder 166 = .ok (.if_icmp .ne 9, 3) := gdX11_elder_154.2.2.2.2.2.2.2.1
theorem dX11_elder_169 : decode cX11_elder 169 = .ok (.iload 5, 2) := gdX11_elder_154.2.2.2.2.2.2.2.2.1
theorem dX11_elder_171 : decode cX11_elder 171 = .ok (.i2l, 1) := gdX11_elder_154.2.2.2.2.2.2.2.2.2.1
theorem dX11_elder_172 : decode cX11_elder 172 = .ok (.goto 27, 3) := gdX11_elder_154.2.2.2.2.2.2.2.2.2.2.1
theorem dX11_elder_175 : decode cX11_elder 175 = .ok (.aload_n 0, 1) := gdX11_elder_154.2.2.2.2.2.2.2.2.2.2.2.1
theorem dX11_elder_176 : decode cX11_elder 176 = .ok (.getfield 48, 3) := gdX11_elder_154.2.2.2.2.2.2.2.2.2.2.2.2.1
theorem dX11_elder_179 : decode cX11_elder 179 = .ok (.iload 4, 2) := gdX11_elder_154.2.2.2.2.2.2.2.2.2.2.2.2.2.1
theorem dX11_elder_181 : decode cX11_elder 181 = .ok (.laload, 1) := gdX11_elder_154.2.2.2.2.2.2.2.2.2.2.2.2.2.2.1
theorem dX11_elder_182 : decode cX11_elder 182 = .ok (.aload_n 0, 1) := gdX11_elder_154.2.2.2.2.2.2.2.2.2.2.2.2.2.2.2
theorem gdX11_elder_183 : (decode cX11_elder 183 = .ok (.getfield 48, 3)) ∧ (decode cX11_elder 186 = .ok (.iload 5, 2)) ∧ (decode cX11_elder 188 = .ok (.laload, 1)) ∧ (decode cX11_elder 189 = .ok (.lsub, 1)) ∧ (decode cX11_elder 190 = .ok (.ldc2_w 281, 3)) ∧ (decode cX11_elder 193 = .ok (.iload_n 3, 1)) ∧ (decode cX11_elder 194 = .ok (.iconst 2, 1)) ∧ (decode cX11_elder 195 = .ok (.isub, 1)) ∧ (decode cX11_elder 196 = .ok (.invokestatic 307, 3)) ∧ (decode cX11_elder 199 = .ok (.lstore 6, 2)) ∧ (decode cX11_elder 201 = .ok (.aload_n 0, 1)) ∧ (decode cX11_elder 202 = .ok (.invokevirtual 362, 3)) ∧ (decode cX11_elder 205 = .ok (.lload 6, 2)) ∧ (decode cX11_elder 207 = .ok (.lreturn, 1)) := by decide +kernel
theorem dX11_elder_183 : decode cX11_elder 183 = .ok (.getfield 48, 3) := gdX11_elder_183.1
theorem dX11_elder_186 : decode cX11_elder 186 = .ok (.iload 5, 2) := gdX11_elder_183.2.1
theorem dX11_elder_188 : decode cX11_elder 188 = .ok (.laload, 1) := gdX11_elder_183.2.2.1
theorem dX11_elder_189 : decode cX11_elder 189 = .ok (.lsub, 1) := gdX11_elder_183.2.2.2.1
theorem dX11_elder_190 : decode cX11_elder 190 = .ok (.ldc2_w 281, 3) := gdX11_elder_183.2.2.2.2.1
theorem dX11_elder_193 : decode cX11_elder 193 = .ok (.iload_n 3, 1) := gdX11_elder_183.2.2.2.2.2.1
theorem dX11_elder_194 : decode cX11_elder 194 = .ok (.iconst 2, 1) := gdX11_elder_183.2.2.2.2.2.2.1
theorem dX11_elder_195 : decode cX11_elder 195 = .ok (.isub, 1) := gdX11_elder_183.2.2.2.2.2.2.2.1
theorem dX11_elder_196 : decode cX11_elder 196 = .ok (.invokestatic 307, 3) := gdX11_elder_183.2.2.2.2.2.2.2.2.1
theorem dX11_elder_199 : decode cX11_elder 199 = .ok (.lstore 6, 2) := gdX11_elder_183.2.2.2.2.2.2.2.2.2.1
theorem dX11_elder_201 : decode cX11_elder 201 = .ok (.aload_n 0, 1) := gdX11_elder_183.2.2.2.2.2.2.2.2.2.2.1
theorem dX11_elder_202 : decode cX11_elder 202 = .ok (.invokevirtual 362, 3) := gdX11_elder_183.2.2.2.2.2.2.2.2.2.2.2.1
theorem dX11_elder_205 : decode cX11_elder 205 = .ok (.lload 6, 2) := gdX11_elder_183.2.2.2.2.2.2.2.2.2.2.2.2.1
theorem dX11_elder_207 : decode cX11_elder 207 = .ok (.lreturn, 1) := gdX11_elder_183.2.2.2.2.2.2.2.2.2.2.2.2.2
theorem gdX11_comes_0 : (decode cX11_comes 0 = .ok (.iconst 0, 1)) ∧ (decode cX11_comes 1 = .ok (.istore 6, 2)) ∧ (decode cX11_comes 3 = .ok (.iload 6, 2)) ∧ (decode cX11_comes 5 = .ok (.aload_n 0, 1)) ∧ (decode cX11_comes 6 = .ok (.getfield 393, 3)) ∧ (decode cX11_comes 9 = .ok (.if_icmp .ge 78, 3)) ∧ (decode cX11_comes 12 = .ok (.aload_n 0, 1)) ∧ (decode cX11_comes 13 = .ok (.getfield 67, 3)) ∧ (decode cX11_comes 16 = .ok (.iload 6, 2)) ∧ (decode cX11_comes 18 = .ok (.iaload, 1)) ∧ (decode cX11_comes 19 = .ok (.iload_n 1, 1)) ∧ (decode cX11_comes 20 = .ok (.if_icmp .ne 61, 3)) ∧ (decode cX11_comes 23 = .ok (.aload_n 0, 1)) ∧ (decode cX11_comes 24 = .ok (.getfield 70, 3)) ∧ (decode cX11_comes 27 = .ok (.iload 6, 2)) ∧ (decode cX11_comes 29 = .ok (.iaload, 1)) := by decide +kernel
theorem dX11_comes_0 : decode cX11_comes 0 = .ok (.iconst 0, 1) := gdX11_comes_0.1
theorem dX11_comes_1 : decode cX11_comes 1 = .ok (.istore 6, 2) := gdX11_comes_0.2.1
theorem dX11_comes_3 : decode cX11_comes 3 = .ok (.iload 6, 2) := gdX11_comes_0.2.2.1
theorem dX11_comes_5 : decode cX11_comes 5 = .ok (.aload_n 0, 1) := gdX11_comes_0.2.2.2.1
theorem dX11_comes_6 : decode cX11_comes 6 = .ok (.getfield 393, 3) := gdX11_comes_0.2.2.2.2.1
theorem dX11_comes_9 : decode cX11_comes 9 = .ok (.if_icmp .ge 78, 3) := gdX11_comes_0.2.2.2.2.2.1
theorem dX11_comes_12 : decode cX11_comes 12 = .ok (.aload_n 0, 1) := gdX11_comes_0.2.2.2.2.2.2.1
theorem dX11_comes_13 : decode cX11_comes 13 = .ok (.getfield 67, 3) := gdX11_comes_0.2.2.2.2.2.2.2.1
theorem dX11_comes_16 : decode cX11_comes 16 = .ok (.iload 6, 2) := gdX11_comes_0.2.2.2.2.2.2.2.2.1
theorem dX11_comes_18 : decode cX11_comes 18 = .ok (.iaload, 1) := gdX11_comes_0.2.2.2.2.2.2.2.2.2.1
theorem dX11_comes_19 : decode cX11_comes 19 = .ok (.iload_n 1, 1) := gdX11_comes_0.2.2.2.2.2.2.2.2.2.2.1
theorem dX11_comes_20 : decode cX11_comes 20 = .ok (.if_icmp .ne 61, 3) := gdX11_comes_0.2.2.2.2.2.2.2.2.2.2.2.1
theorem dX11_comes_23 : decode cX11_comes 23 = .ok (.aload_n 0, 1) := gdX11_comes_0.2.2.2.2.2.2.2.2.2.2.2.2.1
theorem dX11_comes_24 : decode cX11_comes 24 = .ok (.getfield 70, 3) := gdX11_comes_0.2.2.2.2.2.2.2.2.2.2.2.2.2.1
theorem dX11_comes_27 : decode cX11_comes 27 = .ok (.iload 6, 2) := gdX11_comes_0.2.2.2.2.2.2.2.2.2.2.2.2.2.2.1
theorem dX11_comes_29 : decode cX11_comes 29 = .ok (.iaload, 1) := gdX11_comes_0.2.2.2.2.2.2.2.2.2.2.2.2.2.2.2
theorem gdX11_comes_30 : (decode cX11_comes 30 = .ok (.iload_n 2, 1)) ∧ (decode cX11_comes 31 = .ok (.if_icmp .ne 50, 3)) ∧ (decode cX11_comes 34 = .ok (.aload_n 0, 1)) ∧ (decode cX11_comes 35 = .ok (.getfield 73, 3)) ∧ (decode cX11_comes 38 = .ok (.iload 6, 2)) ∧ (decode cX11_comes 40 = .ok (.laload, 1)) ∧ (decode cX11_comes 41 = .ok (.lload_n 3, 1)) ∧ (decode cX11_comes 42 = .ok (.lcmp, 1)) ∧ (decode cX11_comes 43 = .ok (.ifCond .eq 6, 3)) ∧ (decode cX11_comes 46 = .ok (.goto 35, 3)) ∧ (decode cX11_comes 49 = .ok (.aload_n 0, 1)) ∧ (decode cX11_comes 50 = .ok (.getfield 76, 3)) ∧ (decode cX11_comes 53 = .ok (.iload 6, 2)) ∧ (decode cX11_comes 55 = .ok (.iload 5, 2)) ∧ (decode cX11_comes 57 = .ok (.aload_n 0, 1)) ∧ (decode cX11_comes 58 = .ok (.getfield 76, 3)) := by decide +kernel
theorem dX11_comes_30 : decode cX11_comes 30 = .ok (.iload_n 2, 1) := gdX11_comes_30.1
theorem dX11_comes_31 : decode cX11_comes 31 = .ok (.if_icmp .ne 50, 3) := gdX11_comes_30.2.1
theorem dX11_comes_34 : decode cX11_comes 34 = .ok (.aload_n 0, 1) := gdX11_comes_30.2.2.1
theorem dX11_comes_35 : decode cX11_comes 35 = .ok (.getfield 73, 3) := gdX11_comes_30.2.2.2.1
theorem dX11_comes_38 : decode cX11_comes 38 = .ok (.iload 6, 2) := gdX11_comes_30.2.2.2.2.1
theorem dX11_comes_40 : decode cX11_comes 40 = .ok (.laload, 1) := gdX11_comes_30.2.2.2.2.2.1
theorem dX11_comes_41 : decode cX11_comes 41 = .ok (.lload_n 3, 1) := gdX11_comes_30.2.2.2.2.2.2.1
theorem dX11_comes_42 : decode cX11_comes 42 = .ok (.lcmp, 1) := gdX11_comes_30.2.2.2.2.2.2.2.1
theorem dX11_comes_43 : decode cX11_comes 43 = .ok (.ifCond .eq 6, 3) := gdX11_comes_30.2.2.2.2.2.2.2.2.1
theorem dX11_comes_46 : decode cX11_comes 46 = .ok (.goto 35, 3) := gdX11_comes_30.2.2.2.2.2.2.2.2.2.1
theorem dX11_comes_49 : decode cX11_comes 49 = .ok (.aload_n 0, 1) := gdX11_comes_30.2.2.2.2.2.2.2.2.2.2.1
theorem dX11_comes_50 : decode cX11_comes 50 = .ok (.getfield 76, 3) := gdX11_comes_30.2.2.2.2.2.2.2.2.2.2.2.1
theorem dX11_comes_53 : decode cX11_comes 53 = .ok (.iload 6, 2) := gdX11_comes_30.2.2.2.2.2.2.2.2.2.2.2.2.1
theorem dX11_comes_55 : decode cX11_comes 55 = .ok (.iload 5, 2) := gdX11_comes_30.2.2.2.2.2.2.2.2.2.2.2.2.2.1
theorem dX11_comes_57 : decode cX11_comes 57 = .ok (.aload_n 0, 1) := gdX11_comes_30.2.2.2.2.2.2.2.2.2.2.2.2.2.2.1
theorem dX11_comes_58 : decode cX11_comes 58 = .ok (.getfield 76, 3) := gdX11_comes_30.2.2.2.2.2.2.2.2.2.2.2.2.2.2.2
theorem gdX11_comes_61 : (decode cX11_comes 61 = .ok (.iload 6, 2)) ∧ (decode cX11_comes 63 = .ok (.iaload, 1)) ∧ (decode cX11_comes 64 = .ok (.if_icmp .ge 8, 3)) ∧ (decode cX11_comes 67 = .ok (.iload 5, 2)) ∧ (decode cX11_comes 69 = .ok (.goto 10, 3)) ∧ (decode cX11_comes 72 = .ok (.aload_n 0, 1)) ∧ (decode cX11_comes 73 = .ok (.getfield 76, 3)) ∧ (decode cX11_comes 76 = .ok (.iload 6, 2)) ∧ (decode cX11_comes 78 = .ok (.iaload, 1)) ∧ (decode cX11_comes 79 = .ok (.iastore, 1)) ∧ (decode cX11_comes 80 = .ok (.return_, 1)) ∧ (decode cX11_comes 81 = .ok (.iinc 6 1, 3)) ∧ (decode cX11_comes 84 = .ok (.goto (-81), 3)) ∧ (decode cX11_comes 87 = .ok (.aload_n 0, 1)) ∧ (decode cX11_comes 88 = .ok (.getfield 393, 3)) ∧ (decode cX11_comes 91 = .ok (.sipush 4000, 3)) := by decide +kernel
theorem dX11_comes_61 : decode cX11_comes 61 = .ok (.iload 6, 2) := gdX11_comes_61.1
theorem dX11_comes_63 : decode cX11_comes 63 = .ok (.iaload, 1) := gdX11_comes_61.2.1
theorem dX11_comes_64 : decode cX11_comes 64 = .ok (.if_icmp .ge 8, 3) := gdX11_comes_61.2.2.1
theorem dX11_comes_67 : decode cX11_comes 67 = .ok (.iload 5, 2) := gdX11_comes_61.2.2.2.1
theorem dX11_comes_69 : decode cX11_comes 69 = .ok (.goto 10, 3) := gdX11_comes_61.2.2.2.2.1
theorem dX11_comes_72 : decode cX11_comes 72 = .ok (.aload_n 0, 1) := gdX11_comes_61.2.2.2.2.2.1
theorem dX11_comes_73 : decode cX11_comes 73 = .ok (.getfield 76, 3) := gdX11_comes_61.2.2.2.2.2.2.1
theorem dX11_comes_76 : decode cX11_comes 76 = .ok (.iload 6, 2) := gdX11_comes_61.2.2.2.2.2.2.2.1
theorem dX11_comes_78 : decode cX11_comes 78 = .ok (.iaload, 1) := gdX11_comes_61.2.2.2.2.2.2.2.2.1
theorem dX11_comes_79 : decode cX11_comes 79 = .ok (.iastore, 1) := gdX11_comes_61.2.2.2.2.2.2.2.2.2.1
theorem dX11_comes_80 : decode cX11_comes 80 = .ok (.return_, 1) := gdX11_comes_61.2.2.2.2.2.2.2.2.2.2.1
theorem dX11_comes_81 : decode cX11_comes 81 = .ok (.iinc 6 1, 3) := gdX11_comes_61.2.2.2.2.2.2.2.2.2.2.2.1
theorem dX11_comes_84 : decode cX11_comes 84 = .ok (.goto (-81), 3) := gdX11_comes_61.2.2.2.2.2.2.2.2.2.2.2.2.1
theorem dX11_comes_87 : decode cX11_comes 87 = .ok (.aload_n 0, 1) := gdX11_comes_61.2.2.2.2.2.2.2.2.2.2.2.2.2.1
theorem dX11_comes_88 : decode cX11_comes 88 = .ok (.getfield 393, 3) := gdX11_comes_61.2.2.2.2.2.2.2.2.2.2.2.2.2.2.1
theorem dX11_comes_91 : decode cX11_comes 91 = .ok (.sipush 4000, 3) := gdX11_comes_61.2.2.2.2.2.2.2.2.2.2.2.2.2.2.2
theorem gdX11_comes_94 : (decode cX11_comes 94 = .ok (.if_icmp .le 4, 3)) ∧ (decode cX11_comes 97 = .ok (.return_, 1)) ∧ (decode cX11_comes 98 = .ok (.aload_n 0, 1)) ∧ (decode cX11_comes 99 = .ok (.getfield 67, 3)) ∧ (decode cX11_comes 102 = .ok (.aload_n 0, 1)) ∧ (decode cX11_comes 103 = .ok (.getfield 393, 3)) ∧ (decode cX11_comes 106 = .ok (.iload_n 1, 1)) ∧ (decode cX11_comes 107 = .ok (.iastore, 1)) ∧ (decode cX11_comes 108 = .ok (.aload_n 0, 1)) ∧ (decode cX11_comes 109 = .ok (.getfield 70, 3)) ∧ (decode cX11_comes 112 = .ok (.aload_n 0, 1)) ∧ (decode cX11_comes 113 = .ok (.getfield 393, 3)) ∧ (decode cX11_comes 116 = .ok (.iload_n 2, 1)) ∧ (decode cX11_comes 117 = .ok (.iastore, 1)) ∧ (decode cX11_comes 118 = .ok (.aload_n 0, 1)) ∧ (decode cX11_comes 119 = .ok (.getfield 73, 3)) := by decide +kernel
theorem dX11_comes_94 : decode cX11_comes 94 = .ok (.if_icmp .le 4, 3) := gdX11_comes_94.1
theorem dX11_comes_97 : decode cX11_comes 97 = .ok (.return_, 1) := gdX11_comes_94.2.1
theorem dX11_comes_98 : decode cX11_comes 98 = .ok (.aload_n 0, 1) := gdX11_comes_94.2.2.1
theorem dX11_comes_99 : decode cX11_comes 99 = .ok (.getfield 67, 3) := gdX11_comes_94.2.2.2.1
theorem dX11_comes_102 : decode cX11_comes 102 = .ok (.aload_n 0, 1) := gdX11_comes_94.2.2.2.2.1
theorem dX11_comes_103 : decode cX11_comes 103 = .ok (.getfield 393, 3) := gdX11_comes_94.2.2.2.2.2.1
theorem dX11_comes_106 : decode cX11_comes 106 = .ok (.iload_n 1, 1) := gdX11_comes_94.2.2.2.2.2.2.1
theorem dX11_comes_107 : decode cX11_comes 107 = .ok (.iastore, 1) := gdX11_comes_94.2.2.2.2.2.2.2.1
theorem dX11_comes_108 : decode cX11_comes 108 = .ok (.aload_n 0, 1) := gdX11_comes_94.2.2.2.2.2.2.2.2.1
theorem dX11_comes_109 : decode cX11_comes 109 = .ok (.getfield 70, 3) := gdX11_comes_94.2.2.2.2.2.2.2.2.2.1
theorem dX11_comes_112 : decode cX11_comes 112 = .ok (.aload_n 0, 1) := gdX11_comes_94.2.2.2.2.2.2.2.2.2.2.1
theorem dX11_comes_113 : decode cX11_comes 113 = .ok (.getfield 393, 3) := gdX11_comes_94.2.2.2.2.2.2.2.2.2.2.2.1
theorem dX11_comes_116 : decode cX11_comes 116 = .ok (.iload_n 2, 1) := gdX11_comes_94.2.2.2.2.2.2.2.2.2.2.2.2.1
theorem dX11_comes_117 : decode cX11_comes 117 = .ok (.iastore, 1) := gdX11_comes_94.2.2.2.2.2.2.2.2.2.2.2.2.2.1
theorem dX11_comes_118 : decode cX11_comes 118 = .ok (.aload_n 0, 1) := gdX11_comes_94.2.2.2.2.2.2.2.2.2.2.2.2.2.2.1
theorem dX11_comes_119 : decode cX11_comes 119 = .ok (.getfield 73, 3) := gdX11_comes_94.2.2.2.2.2.2.2.2.2.2.2.2.2.2.2
theorem gdX11_comes_122 : (decode cX11_comes 122 = .ok (.aload_n 0, 1)) ∧ (decode cX11_comes 123 = .ok (.getfield 393, 3)) ∧ (decode cX11_comes 126 = .ok (.lload_n 3, 1)) ∧ (decode cX11_comes 127 = .ok (.lastore, 1)) ∧ (decode cX11_comes 128 = .ok (.aload_n 0, 1)) ∧ (decode cX11_comes 129 = .ok (.getfield 76, 3)) ∧ (decode cX11_comes 132 = .ok (.aload_n 0, 1)) ∧ (decode cX11_comes 133 = .ok (.getfield 393, 3)) ∧ (decode cX11_comes 136 = .ok (.iload 5, 2)) ∧ (decode cX11_comes 138 = .ok (.iastore, 1)) ∧ (decode cX11_comes 139 = .ok (.aload_n 0, 1)) ∧ (decode cX11_comes 140 = .ok (.dup, 1)) ∧ (decode cX11_comes 141 = .ok (.getfield 393, 3)) ∧ (decode cX11_comes 144 = .ok (.iconst 1, 1)) ∧ (decode cX11_comes 145 = .ok (.iadd, 1)) ∧ (decode cX11_comes 146 = .ok (.putfield 393, 3)) := by decide +kernel
theorem dX11_comes_122 : decode cX11_comes 122 = .ok (.aload_n 0, 1) := gdX11_comes_122.1
theorem dX11_comes_123 : decode cX11_comes 123 = .ok (.getfield 393, 3) := gdX11_comes_122.2.1
theorem dX11_comes_126 : decode cX11_comes 126 = .ok (.lload_n 3, 1) := gdX11_comes_122.2.2.1
theorem dX11_comes_127 : decode cX11_comes 127 = .ok (.lastore, 1) := gdX11_comes_122.2.2.2.1
theorem dX11_comes_128 : decode cX11_comes 128 = .ok (.aload_n 0, 1) := gdX11_comes_122.2.2.2.2.1
theorem dX11_comes_129 : decode cX11_comes 129 = .ok (.getfield 76, 3) := gdX11_comes_122.2.2.2.2.2.1
theorem dX11_comes_132 : decode cX11_comes 132 = .ok (.aload_n 0, 1) := gdX11_comes_122.2.2.2.2.2.2.1
theorem dX11_comes_133 : decode cX11_comes 133 = .ok (.getfield 393, 3) := gdX11_comes_122.2.2.2.2.2.2.2.1
theorem dX11_comes_136 : decode cX11_comes 136 = .ok (.iload 5, 2) := gdX11_comes_122.2.2.2.2.2.2.2.2.1
theorem dX11_comes_138 : decode cX11_comes 138 = .ok (.iastore, 1) := gdX11_comes_122.2.2.2.2.2.2.2.2.2.1
theorem dX11_comes_139 : decode cX11_comes 139 = .ok (.aload_n 0, 1) := gdX11_comes_122.2.2.2.2.2.2.2.2.2.2.1
theorem dX11_comes_140 : decode cX11_comes 140 = .ok (.dup, 1) := gdX11_comes_122.2.2.2.2.2.2.2.2.2.2.2.1
theorem dX11_comes_141 : decode cX11_comes 141 = .ok (.getfield 393, 3) := gdX11_comes_122.2.2.2.2.2.2.2.2.2.2.2.2.1
theorem dX11_comes_144 : decode cX11_comes 144 = .ok (.iconst 1, 1) := gdX11_comes_122.2.2.2.2.2.2.2.2.2.2.2.2.2.1
theorem dX11_comes_145 : decode cX11_comes 145 = .ok (.iadd, 1) := gdX11_comes_122.2.2.2.2.2.2.2.2.2.2.2.2.2.2.1
theorem dX11_comes_146 : decode cX11_comes 146 = .ok (.putfield 393, 3) := gdX11_comes_122.2.2.2.2.2.2.2.2.2.2.2.2.2.2.2
theorem dX11_comes_149 : decode cX11_comes 149 = .ok (.return_, 1) := by decide +kernel
theorem gdX11_goesOn_0 : (decode cX11_goesOn 0 = .ok (.aload_n 0, 1)) ∧ (decode cX11_goesOn 1 = .ok (.getfield 67, 3)) ∧ (decode cX11_goesOn 4 = .ok (.iload_n 1, 1)) ∧ (decode cX11_goesOn 5 = .ok (.iaload, 1)) ∧ (decode cX11_goesOn 6 = .ok (.istore_n 3, 1)) ∧ (decode cX11_goesOn 7 = .ok (.aload_n 0, 1)) ∧ (decode cX11_goesOn 8 = .ok (.getfield 70, 3)) ∧ (decode cX11_goesOn 11 = .ok (.iload_n 1, 1)) ∧ (decode cX11_goesOn 12 = .ok (.iaload, 1)) ∧ (decode cX11_goesOn 13 = .ok (.istore 4, 2)) ∧ (decode cX11_goesOn 15 = .ok (.iload_n 3, 1)) ∧ (decode cX11_goesOn 16 = .ok (.iload_n 2, 1)) ∧ (decode cX11_goesOn 17 = .ok (.if_icmp .ge 31, 3)) ∧ (decode cX11_goesOn 20 = .ok (.aload_n 0, 1)) ∧ (decode cX11_goesOn 21 = .ok (.iload_n 3, 1)) ∧ (decode cX11_goesOn 22 = .ok (.iconst 1, 1)) := by decide +kernel
theorem dX11_goesOn_0 : decode cX11_goesOn 0 = .ok (.aload_n 0, 1) := gdX11_goesOn_0.1
theorem dX11_goesOn_1 : decode cX11_goesOn 1 = .ok (.getfield 67, 3) := gdX11_goesOn_0.2.1
theorem dX11_goesOn_4 : decode cX11_goesOn 4 = .ok (.iload_n 1, 1) := gdX11_goesOn_0.2.2.1
theorem dX11_goesOn_5 : decode cX11_goesOn 5 = .ok (.iaload, 1) := gdX11_goesOn_0.2.2.2.1
theorem dX11_goesOn_6 : decode cX11_goesOn 6 = .ok (.istore_n 3, 1) := gdX11_goesOn_0.2.2.2.2.1
theorem dX11_goesOn_7 : decode cX11_goesOn 7 = .ok (.aload_n 0, 1) := gdX11_goesOn_0.2.2.2.2.2.1
theorem dX11_goesOn_8 : decode cX11_goesOn 8 = .ok (.getfield 70, 3) := gdX11_goesOn_0.2.2.2.2.2.2.1
theorem dX11_goesOn_11 : decode cX11_goesOn 11 = .ok (.iload_n 1, 1) := gdX11_goesOn_0.2.2.2.2.2.2.2.1
theorem dX11_goesOn_12 : decode cX11_goesOn 12 = .ok (.iaload, 1) := gdX11_goesOn_0.2.2.2.2.2.2.2.2.1
theorem dX11_goesOn_13 : decode cX11_goesOn 13 = .ok (.istore 4, 2) := gdX11_goesOn_0.2.2.2.2.2.2.2.2.2.1
theorem dX11_goesOn_15 : decode cX11_goesOn 15 = .ok (.iload_n 3, 1) := gdX11_goesOn_0.2.2.2.2.2.2.2.2.2.2.1
theorem dX11_goesOn_16 : decode cX11_goesOn 16 = .ok (.iload_n 2, 1) := gdX11_goesOn_0.2.2.2.2.2.2.2.2.2.2.2.1
theorem dX11_goesOn_17 : decode cX11_goesOn 17 = .ok (.if_icmp .ge 31, 3) := gdX11_goesOn_0.2.2.2.2.2.2.2.2.2.2.2.2.1
theorem dX11_goesOn_20 : decode cX11_goesOn 20 = .ok (.aload_n 0, 1) := gdX11_goesOn_0.2.2.2.2.2.2.2.2.2.2.2.2.2.1
theorem dX11_goesOn_21 : decode cX11_goesOn 21 = .ok (.iload_n 3, 1) := gdX11_goesOn_0.2.2.2.2.2.2.2.2.2.2.2.2.2.2.1
theorem dX11_goesOn_22 : decode cX11_goesOn 22 = .ok (.iconst 1, 1) := gdX11_goesOn_0.2.2.2.2.2.2.2.2.2.2.2.2.2.2.2
theorem gdX11_goesOn_23 : (decode cX11_goesOn 23 = .ok (.iadd, 1)) ∧ (decode cX11_goesOn 24 = .ok (.iload 4, 2)) ∧ (decode cX11_goesOn 26 = .ok (.aload_n 0, 1)) ∧ (decode cX11_goesOn 27 = .ok (.getfield 73, 3)) ∧ (decode cX11_goesOn 30 = .ok (.iload_n 1, 1)) ∧ (decode cX11_goesOn 31 = .ok (.laload, 1)) ∧ (decode cX11_goesOn 32 = .ok (.aload_n 0, 1)) ∧ (decode cX11_goesOn 33 = .ok (.iload 4, 2)) ∧ (decode cX11_goesOn 35 = .ok (.invokevirtual 333, 3)) ∧ (decode cX11_goesOn 38 = .ok (.ladd, 1)) ∧ (decode cX11_goesOn 39 = .ok (.aload_n 0, 1)) ∧ (decode cX11_goesOn 40 = .ok (.getfield 76, 3)) ∧ (decode cX11_goesOn 43 = .ok (.iload_n 1, 1)) ∧ (decode cX11_goesOn 44 = .ok (.iaload, 1)) ∧ (decode cX11_goesOn 45 = .ok (.invokevirtual 396, 3)) ∧ (decode cX11_goesOn 48 = .ok (.iconst 0, 1)) := by decide +kernel
theorem dX11_goesOn_23 : decode cX11_goesOn 23 = .ok (.iadd, 1) := gdX11_goesOn_23.1
theorem dX11_goesOn_24 : decode cX11_goesOn 24 = .ok (.iload 4, 2) := gdX11_goesOn_23.2.1
theorem dX11_goesOn_26 : decode cX11_goesOn 26 = .ok (.aload_n 0, 1) := gdX11_goesOn_23.2.2.1
theorem dX11_goesOn_27 : decode cX11_goesOn 27 = .ok (.getfield 73, 3) := gdX11_goesOn_23.2.2.2.1
theorem dX11_goesOn_30 : decode cX11_goesOn 30 = .ok (.iload_n 1, 1) := gdX11_goesOn_23.2.2.2.2.1
theorem dX11_goesOn_31 : decode cX11_goesOn 31 = .ok (.laload, 1) := gdX11_goesOn_23.2.2.2.2.2.1
theorem dX11_goesOn_32 : decode cX11_goesOn 32 = .ok (.aload_n 0, 1) := gdX11_goesOn_23.2.2.2.2.2.2.1
theorem dX11_goesOn_33 : decode cX11_goesOn 33 = .ok (.iload 4, 2) := gdX11_goesOn_23.2.2.2.2.2.2.2.1
theorem dX11_goesOn_35 : decode cX11_goesOn 35 = .ok (.invokevirtual 333, 3) := gdX11_goesOn_23.2.2.2.2.2.2.2.2.1
theorem dX11_goesOn_38 : decode cX11_goesOn 38 = .ok (.ladd, 1) := gdX11_goesOn_23.2.2.2.2.2.2.2.2.2.1
theorem dX11_goesOn_39 : decode cX11_goesOn 39 = .ok (.aload_n 0, 1) := gdX11_goesOn_23.2.2.2.2.2.2.2.2.2.2.1
theorem dX11_goesOn_40 : decode cX11_goesOn 40 = .ok (.getfield 76, 3) := gdX11_goesOn_23.2.2.2.2.2.2.2.2.2.2.2.1
theorem dX11_goesOn_43 : decode cX11_goesOn 43 = .ok (.iload_n 1, 1) := gdX11_goesOn_23.2.2.2.2.2.2.2.2.2.2.2.2.1
theorem dX11_goesOn_44 : decode cX11_goesOn 44 = .ok (.iaload, 1) := gdX11_goesOn_23.2.2.2.2.2.2.2.2.2.2.2.2.2.1
theorem dX11_goesOn_45 : decode cX11_goesOn 45 = .ok (.invokevirtual 396, 3) := gdX11_goesOn_23.2.2.2.2.2.2.2.2.2.2.2.2.2.2.1
theorem dX11_goesOn_48 : decode cX11_goesOn 48 = .ok (.iconst 0, 1) := gdX11_goesOn_23.2.2.2.2.2.2.2.2.2.2.2.2.2.2.2
theorem gdX11_goesOn_49 : (decode cX11_goesOn 49 = .ok (.istore 5, 2)) ∧ (decode cX11_goesOn 51 = .ok (.iload 5, 2)) ∧ (decode cX11_goesOn 53 = .ok (.aload_n 0, 1)) ∧ (decode cX11_goesOn 54 = .ok (.getfield 45, 3)) ∧ (decode cX11_goesOn 57 = .ok (.iconst 1, 1)) ∧ (decode cX11_goesOn 58 = .ok (.iaload, 1)) ∧ (decode cX11_goesOn 59 = .ok (.if_icmp .ge 79, 3)) ∧ (decode cX11_goesOn 62 = .ok (.aload_n 0, 1)) ∧ (decode cX11_goesOn 63 = .ok (.iload 5, 2)) ∧ (decode cX11_goesOn 65 = .ok (.iconst 2, 1)) ∧ (decode cX11_goesOn 66 = .ok (.invokevirtual 283, 3)) ∧ (decode cX11_goesOn 69 = .ok (.istore 6, 2)) ∧ (decode cX11_goesOn 71 = .ok (.aload_n 0, 1)) ∧ (decode cX11_goesOn 72 = .ok (.iload 5, 2)) ∧ (decode cX11_goesOn 74 = .ok (.iload 4, 2)) ∧ (decode cX11_goesOn 76 = .ok (.invokevirtual 293, 3)) := by decide +kernel
theorem dX11_goesOn_49 : decode cX11_goesOn 49 = .ok (.istore 5, 2) := gdX11_goesOn_49.1
theorem dX11_goesOn_51 : decode cX11_goesOn 51 = .ok (.iload 5, 2) := gdX11_goesOn_49.2.1
theorem dX11_goesOn_53 : decode cX11_goesOn 53 = .ok (.aload_n 0, 1) := gdX11_goesOn_49.2.2.1
theorem dX11_goesOn_54 : decode cX11_goesOn 54 = .ok (.getfield 45, 3) := gdX11_goesOn_49.2.2.2.1
theorem dX11_goesOn_57 : decode cX11_goesOn 57 = .ok (.iconst 1, 1) := gdX11_goesOn_49.2.2.2.2.1
theorem dX11_goesOn_58 : decode cX11_goesOn 58 = .ok (.iaload, 1) := gdX11_goesOn_49.2.2.2.2.2.1
theorem dX11_goesOn_59 : decode cX11_goesOn 59 = .ok (.if_icmp .ge 79, 3) := gdX11_goesOn_49.2.2.2.2.2.2.1
theorem dX11_goesOn_62 : decode cX11_goesOn 62 = .ok (.aload_n 0, 1) := gdX11_goesOn_49.2.2.2.2.2.2.2.1
theorem dX11_goesOn_63 : decode cX11_goesOn 63 = .ok (.iload 5, 2) := gdX11_goesOn_49.2.2.2.2.2.2.2.2.1
theorem dX11_goesOn_65 : decode cX11_goesOn 65 = .ok (.iconst 2, 1) := gdX11_goesOn_49.2.2.2.2.2.2.2.2.2.1
theorem dX11_goesOn_66 : decode cX11_goesOn 66 = .ok (.invokevirtual 283, 3) := gdX11_goesOn_49.2.2.2.2.2.2.2.2.2.2.1
theorem dX11_goesOn_69 : decode cX11_goesOn 69 = .ok (.istore 6, 2) := gdX11_goesOn_49.2.2.2.2.2.2.2.2.2.2.2.1
theorem dX11_goesOn_71 : decode cX11_goesOn 71 = .ok (.aload_n 0, 1) := gdX11_goesOn_49.2.2.2.2.2.2.2.2.2.2.2.2.1
theorem dX11_goesOn_72 : decode cX11_goesOn 72 = .ok (.iload 5, 2) := gdX11_goesOn_49.2.2.2.2.2.2.2.2.2.2.2.2.2.1
theorem dX11_goesOn_74 : decode cX11_goesOn 74 = .ok (.iload 4, 2) := gdX11_goesOn_49.2.2.2.2.2.2.2.2.2.2.2.2.2.2.1
theorem dX11_goesOn_76 : decode cX11_goesOn 76 = .ok (.invokevirtual 293, 3) := gdX11_goesOn_49.2.2.2.2.2.2.2.2.2.2.2.2.2.2.2
theorem gdX11_goesOn_79 : (decode cX11_goesOn 79 = .ok (.ifCond .lt 53, 3)) ∧ (decode cX11_goesOn 82 = .ok (.iload_n 3, 1)) ∧ (decode cX11_goesOn 83 = .ok (.iload 6, 2)) ∧ (decode cX11_goesOn 85 = .ok (.iadd, 1)) ∧ (decode cX11_goesOn 86 = .ok (.iload_n 2, 1)) ∧ (decode cX11_goesOn 87 = .ok (.if_icmp .gt 45, 3)) ∧ (decode cX11_goesOn 90 = .ok (.aload_n 0, 1)) ∧ (decode cX11_goesOn 91 = .ok (.iload_n 3, 1)) ∧ (decode cX11_goesOn 92 = .ok (.iload 6, 2)) ∧ (decode cX11_goesOn 94 = .ok (.iadd, 1)) ∧ (decode cX11_goesOn 95 = .ok (.aload_n 0, 1)) ∧ (decode cX11_goesOn 96 = .ok (.iload 5, 2)) ∧ (decode cX11_goesOn 98 = .ok (.iload 4, 2)) ∧ (decode cX11_goesOn 100 = .ok (.invokevirtual 293, 3)) ∧ (decode cX11_goesOn 103 = .ok (.aload_n 0, 1)) ∧ (decode cX11_goesOn 104 = .ok (.getfield 73, 3)) := by decide +kernel
theorem dX11_goesOn_79 : decode cX11_goesOn 79 = .ok (.ifCond .lt 53, 3) := gdX11_goesOn_79.1
theorem dX11_goesOn_82 : decode cX11_goesOn 82 = .ok (.iload_n 3, 1) := gdX11_goesOn_79.2.1
theorem dX11_goesOn_83 : decode cX11_goesOn 83 = .ok (.iload 6, 2) := gdX11_goesOn_79.2.2.1
theorem dX11_goesOn_85 : decode cX11_goesOn 85 = .ok (.iadd, 1) := gdX11_goesOn_79.2.2.2.1
theorem dX11_goesOn_86 : decode cX11_goesOn 86 = .ok (.iload_n 2, 1) := gdX11_goesOn_79.2.2.2.2.1
theorem dX11_goesOn_87 : decode cX11_goesOn 87 = .ok (.if_icmp .gt 45, 3) := gdX11_goesOn_79.2.2.2.2.2.1
theorem dX11_goesOn_90 : decode cX11_goesOn 90 = .ok (.aload_n 0, 1) := gdX11_goesOn_79.2.2.2.2.2.2.1
theorem dX11_goesOn_91 : decode cX11_goesOn 91 = .ok (.iload_n 3, 1) := gdX11_goesOn_79.2.2.2.2.2.2.2.1
theorem dX11_goesOn_92 : decode cX11_goesOn 92 = .ok (.iload 6, 2) := gdX11_goesOn_79.2.2.2.2.2.2.2.2.1
theorem dX11_goesOn_94 : decode cX11_goesOn 94 = .ok (.iadd, 1) := gdX11_goesOn_79.2.2.2.2.2.2.2.2.2.1
theorem dX11_goesOn_95 : decode cX11_goesOn 95 = .ok (.aload_n 0, 1) := gdX11_goesOn_79.2.2.2.2.2.2.2.2.2.2.1
theorem dX11_goesOn_96 : decode cX11_goesOn 96 = .ok (.iload 5, 2) := gdX11_goesOn_79.2.2.2.2.2.2.2.2.2.2.2.1
theorem dX11_goesOn_98 : decode cX11_goesOn 98 = .ok (.iload 4, 2) := gdX11_goesOn_79.2.2.2.2.2.2.2.2.2.2.2.2.1
theorem dX11_goesOn_100 : decode cX11_goesOn 100 = .ok (.invokevirtual 293, 3) := gdX11_goesOn_79.2.2.2.2.2.2.2.2.2.2.2.2.2.1
theorem dX11_goesOn_103 : decode cX11_goesOn 103 = .ok (.aload_n 0, 1) := gdX11_goesOn_79.2.2.2.2.2.2.2.2.2.2.2.2.2.2.1
theorem dX11_goesOn_104 : decode cX11_goesOn 104 = .ok (.getfield 73, 3) := gdX11_goesOn_79.2.2.2.2.2.2.2.2.2.2.2.2.2.2.2
theorem gdX11_goesOn_107 : (decode cX11_goesOn 107 = .ok (.iload_n 1, 1)) ∧ (decode cX11_goesOn 108 = .ok (.laload, 1)) ∧ (decode cX11_goesOn 109 = .ok (.iload 6, 2)) ∧ (decode cX11_goesOn 111 = .ok (.i2l, 1)) ∧ (decode cX11_goesOn 112 = .ok (.aload_n 0, 1)) ∧ (decode cX11_goesOn 113 = .ok (.iload 5, 2)) ∧ (decode cX11_goesOn 115 = .ok (.invokevirtual 337, 3)) ∧ (decode cX11_goesOn 118 = .ok (.lmul, 1)) ∧ (decode cX11_goesOn 119 = .ok (.ladd, 1)) ∧ (decode cX11_goesOn 120 = .ok (.aload_n 0, 1)) ∧ (decode cX11_goesOn 121 = .ok (.getfield 76, 3)) ∧ (decode cX11_goesOn 124 = .ok (.iload_n 1, 1)) ∧ (decode cX11_goesOn 125 = .ok (.iaload, 1)) ∧ (decode cX11_goesOn 126 = .ok (.iload 6, 2)) ∧ (decode cX11_goesOn 128 = .ok (.iadd, 1)) ∧ (decode cX11_goesOn 129 = .ok (.invokevirtual 396, 3)) := by decide +kernel
theorem dX11_goesOn_107 : decode cX11_goesOn 107 = .ok (.iload_n 1, 1) := gdX11_goesOn_107.1
theorem dX11_goesOn_108 : decode cX11_goesOn 108 = .ok (.laload, 1) := gdX11_goesOn_107.2.1
theorem dX11_goesOn_109 : decode cX11_goesOn 109 = .ok (.iload 6, 2) := gdX11_goesOn_107.2.2.1
theorem dX11_goesOn_111 : decode cX11_goesOn 111 = .ok (.i2l, 1) := gdX11_goesOn_107.2.2.2.1
theorem dX11_goesOn_112 : decode cX11_goesOn 112 = .ok (.aload_n 0, 1) := gdX11_goesOn_107.2.2.2.2.1
theorem dX11_goesOn_113 : decode cX11_goesOn 113 = .ok (.iload 5, 2) := gdX11_goesOn_107.2.2.2.2.2.1
theorem dX11_goesOn_115 : decode cX11_goesOn 115 = .ok (.invokevirtual 337, 3) := gdX11_goesOn_107.2.2.2.2.2.2.1
theorem dX11_goesOn_118 : decode cX11_goesOn 118 = .ok (.lmul, 1) := gdX11_goesOn_107.2.2.2.2.2.2.2.1
theorem dX11_goesOn_119 : decode cX11_goesOn 119 = .ok (.ladd, 1) := gdX11_goesOn_107.2.2.2.2.2.2.2.2.1
theorem dX11_goesOn_120 : decode cX11_goesOn 120 = .ok (.aload_n 0, 1) := gdX11_goesOn_107.2.2.2.2.2.2.2.2.2.1
theorem dX11_goesOn_121 : decode cX11_goesOn 121 = .ok (.getfield 76, 3) := gdX11_goesOn_107.2.2.2.2.2.2.2.2.2.2.1
theorem dX11_goesOn_124 : decode cX11_goesOn 124 = .ok (.iload_n 1, 1) := gdX11_goesOn_107.2.2.2.2.2.2.2.2.2.2.2.1
theorem dX11_goesOn_125 : decode cX11_goesOn 125 = .ok (.iaload, 1) := gdX11_goesOn_107.2.2.2.2.2.2.2.2.2.2.2.2.1
theorem dX11_goesOn_126 : decode cX11_goesOn 126 = .ok (.iload 6, 2) := gdX11_goesOn_107.2.2.2.2.2.2.2.2.2.2.2.2.2.1
theorem dX11_goesOn_128 : decode cX11_goesOn 128 = .ok (.iadd, 1) := gdX11_goesOn_107.2.2.2.2.2.2.2.2.2.2.2.2.2.2.1
theorem dX11_goesOn_129 : decode cX11_goesOn 129 = .ok (.invokevirtual 396, 3) := gdX11_goesOn_107.2.2.2.2.2.2.2.2.2.2.2.2.2.2.2
theorem gdX11_goesOn_132 : (decode cX11_goesOn 132 = .ok (.iinc 5 1, 3)) ∧ (decode cX11_goesOn 135 = .ok (.goto (-84), 3)) ∧ (decode cX11_goesOn 138 = .ok (.return_, 1)) := by decide +kernel
theorem dX11_goesOn_132 : decode cX11_goesOn 132 = .ok (.iinc 5 1, 3) := gdX11_goesOn_132.1
theorem dX11_goesOn_135 : decode cX11_goesOn 135 = .ok (.goto (-84), 3) := gdX11_goesOn_132.2.1
theorem dX11_goesOn_138 : decode cX11_goesOn 138 = .ok (.return_, 1) := gdX11_goesOn_132.2.2
theorem gdX11_ripe_0 : (decode cX11_ripe 0 = .ok (.aload_n 0, 1)) ∧ (decode cX11_ripe 1 = .ok (.iload_n 1, 1)) ∧ (decode cX11_ripe 2 = .ok (.invokevirtual 299, 3)) ∧ (decode cX11_ripe 5 = .ok (.ifCond .eq 51, 3)) ∧ (decode cX11_ripe 8 = .ok (.aload_n 0, 1)) ∧ (decode cX11_ripe 9 = .ok (.iload_n 2, 1)) ∧ (decode cX11_ripe 10 = .ok (.invokevirtual 299, 3)) ∧ (decode cX11_ripe 13 = .ok (.ifCond .eq 43, 3)) ∧ (decode cX11_ripe 16 = .ok (.iload_n 3, 1)) ∧ (decode cX11_ripe 17 = .ok (.i2l, 1)) ∧ (decode cX11_ripe 18 = .ok (.lconst 0, 1)) ∧ (decode cX11_ripe 19 = .ok (.ldc2_w 400, 3)) ∧ (decode cX11_ripe 22 = .ok (.invokestatic 131, 3)) ∧ (decode cX11_ripe 25 = .ok (.ifCond .eq 31, 3)) ∧ (decode cX11_ripe 28 = .ok (.iload 4, 2)) ∧ (decode cX11_ripe 30 = .ok (.i2l, 1)) := by decide +kernel
theorem dX11_ripe_0 : decode cX11_ripe 0 = .ok (.aload_n 0, 1) := gdX11_ripe_0.1
theorem dX11_ripe_1 : decode cX11_ripe 1 = .ok (.iload_n 1, 1) := gdX11_ripe_0.2.1
theorem dX11_ripe_2 : decode cX11_ripe 2 = .ok (.invokevirtual 299, 3) := gdX11_ripe_0.2.2.1
theorem dX11_ripe_5 : decode cX11_ripe 5 = .ok (.ifCond .eq 51, 3) := gdX11_ripe_0.2.2.2.1
theorem dX11_ripe_8 : decode cX11_ripe 8 = .ok (.aload_n 0, 1) := gdX11_ripe_0.2.2.2.2.1
theorem dX11_ripe_9 : decode cX11_ripe 9 = .ok (.iload_n 2, 1) := gdX11_ripe_0.2.2.2.2.2.1
theorem dX11_ripe_10 : decode cX11_ripe 10 = .ok (.invokevirtual 299, 3) := gdX11_ripe_0.2.2.2.2.2.2.1
theorem dX11_ripe_13 : decode cX11_ripe 13 = .ok (.ifCond .eq 43, 3) := gdX11_ripe_0.2.2.2.2.2.2.2.1
theorem dX11_ripe_16 : decode cX11_ripe 16 = .ok (.iload_n 3, 1) := gdX11_ripe_0.2.2.2.2.2.2.2.2.1
theorem dX11_ripe_17 : decode cX11_ripe 17 = .ok (.i2l, 1) := gdX11_ripe_0.2.2.2.2.2.2.2.2.2.1
theorem dX11_ripe_18 : decode cX11_ripe 18 = .ok (.lconst 0, 1) := gdX11_ripe_0.2.2.2.2.2.2.2.2.2.2.1
theorem dX11_ripe_19 : decode cX11_ripe 19 = .ok (.ldc2_w 400, 3) := gdX11_ripe_0.2.2.2.2.2.2.2.2.2.2.2.1
theorem dX11_ripe_22 : decode cX11_ripe 22 = .ok (.invokestatic 131, 3) := gdX11_ripe_0.2.2.2.2.2.2.2.2.2.2.2.2.1
theorem dX11_ripe_25 : decode cX11_ripe 25 = .ok (.ifCond .eq 31, 3) := gdX11_ripe_0.2.2.2.2.2.2.2.2.2.2.2.2.2.1
theorem dX11_ripe_28 : decode cX11_ripe 28 = .ok (.iload 4, 2) := gdX11_ripe_0.2.2.2.2.2.2.2.2.2.2.2.2.2.2.1
theorem dX11_ripe_30 : decode cX11_ripe 30 = .ok (.i2l, 1) := gdX11_ripe_0.2.2.2.2.2.2.2.2.2.2.2.2.2.2.2
theorem gdX11_ripe_31 : (decode cX11_ripe 31 = .ok (.lconst 0, 1)) ∧ (decode cX11_ripe 32 = .ok (.ldc2_w 402, 3)) ∧ (decode cX11_ripe 35 = .ok (.invokestatic 131, 3)) ∧ (decode cX11_ripe 38 = .ok (.ifCond .eq 18, 3)) ∧ (decode cX11_ripe 41 = .ok (.iload 5, 2)) ∧ (decode cX11_ripe 43 = .ok (.i2l, 1)) ∧ (decode cX11_ripe 44 = .ok (.iload 4, 2)) ∧ (decode cX11_ripe 46 = .ok (.i2l, 1)) ∧ (decode cX11_ripe 47 = .ok (.ldc2_w 402, 3)) ∧ (decode cX11_ripe 50 = .ok (.invokestatic 131, 3)) ∧ (decode cX11_ripe 53 = .ok (.ifCond .ne 5, 3)) ∧ (decode cX11_ripe 56 = .ok (.iconst (-1), 1)) ∧ (decode cX11_ripe 57 = .ok (.ireturn, 1)) ∧ (decode cX11_ripe 58 = .ok (.aload_n 0, 1)) ∧ (decode cX11_ripe 59 = .ok (.iconst 0, 1)) ∧ (decode cX11_ripe 60 = .ok (.putfield 393, 3)) := by decide +kernel
theorem dX11_ripe_31 : decode cX11_ripe 31 = .ok (.lconst 0, 1) := gdX11_ripe_31.1
theorem dX11_ripe_32 : decode cX11_ripe 32 = .ok (.ldc2_w 402, 3) := gdX11_ripe_31.2.1
theorem dX11_ripe_35 : decode cX11_ripe 35 = .ok (.invokestatic 131, 3) := gdX11_ripe_31.2.2.1
theorem dX11_ripe_38 : decode cX11_ripe 38 = .ok (.ifCond .eq 18, 3) := gdX11_ripe_31.2.2.2.1
theorem dX11_ripe_41 : decode cX11_ripe 41 = .ok (.iload 5, 2) := gdX11_ripe_31.2.2.2.2.1
theorem dX11_ripe_43 : decode cX11_ripe 43 = .ok (.i2l, 1) := gdX11_ripe_31.2.2.2.2.2.1
theorem dX11_ripe_44 : decode cX11_ripe 44 = .ok (.iload 4, 2) := gdX11_ripe_31.2.2.2.2.2.2.1
theorem dX11_ripe_46 : decode cX11_ripe 46 = .ok (.i2l, 1) := gdX11_ripe_31.2.2.2.2.2.2.2.1
theorem dX11_ripe_47 : decode cX11_ripe 47 = .ok (.ldc2_w 402, 3) := gdX11_ripe_31.2.2.2.2.2.2.2.2.1
theorem dX11_ripe_50 : decode cX11_ripe 50 = .ok (.invokestatic 131, 3) := gdX11_ripe_31.2.2.2.2.2.2.2.2.2.1
theorem dX11_ripe_53 : decode cX11_ripe 53 = .ok (.ifCond .ne 5, 3) := gdX11_ripe_31.2.2.2.2.2.2.2.2.2.2.1
theorem dX11_ripe_56 : decode cX11_ripe 56 = .ok (.iconst (-1), 1) := gdX11_ripe_31.2.2.2.2.2.2.2.2.2.2.2.1
theorem dX11_ripe_57 : decode cX11_ripe 57 = .ok (.ireturn, 1) := gdX11_ripe_31.2.2.2.2.2.2.2.2.2.2.2.2.1
theorem dX11_ripe_58 : decode cX11_ripe 58 = .ok (.aload_n 0, 1) := gdX11_ripe_31.2.2.2.2.2.2.2.2.2.2.2.2.2.1
theorem dX11_ripe_59 : decode cX11_ripe 59 = .ok (.iconst 0, 1) := gdX11_ripe_31.2.2.2.2.2.2.2.2.2.2.2.2.2.2.1
theorem dX11_ripe_60 : decode cX11_ripe 60 = .ok (.putfield 393, 3) := gdX11_ripe_31.2.2.2.2.2.2.2.2.2.2.2.2.2.2.2
theorem gdX11_ripe_63 : (decode cX11_ripe 63 = .ok (.aload_n 0, 1)) ∧ (decode cX11_ripe 64 = .ok (.iconst 0, 1)) ∧ (decode cX11_ripe 65 = .ok (.iload_n 1, 1)) ∧ (decode cX11_ripe 66 = .ok (.lconst 0, 1)) ∧ (decode cX11_ripe 67 = .ok (.iconst 0, 1)) ∧ (decode cX11_ripe 68 = .ok (.invokevirtual 396, 3)) ∧ (decode cX11_ripe 71 = .ok (.iconst 0, 1)) ∧ (decode cX11_ripe 72 = .ok (.istore 6, 2)) ∧ (decode cX11_ripe 74 = .ok (.iload 6, 2)) ∧ (decode cX11_ripe 76 = .ok (.iload_n 3, 1)) ∧ (decode cX11_ripe 77 = .ok (.if_icmp .gt 66, 3)) ∧ (decode cX11_ripe 80 = .ok (.aload_n 0, 1)) ∧ (decode cX11_ripe 81 = .ok (.getfield 393, 3)) ∧ (decode cX11_ripe 84 = .ok (.sipush 4000, 3)) ∧ (decode cX11_ripe 87 = .ok (.if_icmp .gt 56, 3)) ∧ (decode cX11_ripe 90 = .ok (.iconst 0, 1)) := by decide +kernel
theorem dX11_ripe_63 : decode cX11_ripe 63 = .ok (.aload_n 0, 1) := gdX11_ripe_63.1
theorem dX11_ripe_64 : decode cX11_ripe 64 = .ok (.iconst 0, 1) := gdX11_ripe_63.2.1
theorem dX11_ripe_65 : decode cX11_ripe 65 = .ok (.iload_n 1, 1) := gdX11_ripe_63.2.2.1
theorem dX11_ripe_66 : decode cX11_ripe 66 = .ok (.lconst 0, 1) := gdX11_ripe_63.2.2.2.1
theorem dX11_ripe_67 : decode cX11_ripe 67 = .ok (.iconst 0, 1) := gdX11_ripe_63.2.2.2.2.1
theorem dX11_ripe_68 : decode cX11_ripe 68 = .ok (.invokevirtual 396, 3) := gdX11_ripe_63.2.2.2.2.2.1
theorem dX11_ripe_71 : decode cX11_ripe 71 = .ok (.iconst 0, 1) := gdX11_ripe_63.2.2.2.2.2.2.1
theorem dX11_ripe_72 : decode cX11_ripe 72 = .ok (.istore 6, 2) := gdX11_ripe_63.2.2.2.2.2.2.2.1
theorem dX11_ripe_74 : decode cX11_ripe 74 = .ok (.iload 6, 2) := gdX11_ripe_63.2.2.2.2.2.2.2.2.1
theorem dX11_ripe_76 : decode cX11_ripe 76 = .ok (.iload_n 3, 1) := gdX11_ripe_63.2.2.2.2.2.2.2.2.2.1
theorem dX11_ripe_77 : decode cX11_ripe 77 = .ok (.if_icmp .gt 66, 3) := gdX11_ripe_63.2.2.2.2.2.2.2.2.2.2.1
theorem dX11_ripe_80 : decode cX11_ripe 80 = .ok (.aload_n 0, 1) := gdX11_ripe_63.2.2.2.2.2.2.2.2.2.2.2.1
theorem dX11_ripe_81 : decode cX11_ripe 81 = .ok (.getfield 393, 3) := gdX11_ripe_63.2.2.2.2.2.2.2.2.2.2.2.2.1
theorem dX11_ripe_84 : decode cX11_ripe 84 = .ok (.sipush 4000, 3) := gdX11_ripe_63.2.2.2.2.2.2.2.2.2.2.2.2.2.1
theorem dX11_ripe_87 : decode cX11_ripe 87 = .ok (.if_icmp .gt 56, 3) := gdX11_ripe_63.2.2.2.2.2.2.2.2.2.2.2.2.2.2.1
theorem dX11_ripe_90 : decode cX11_ripe 90 = .ok (.iconst 0, 1) := gdX11_ripe_63.2.2.2.2.2.2.2.2.2.2.2.2.2.2.2
theorem gdX11_ripe_91 : (decode cX11_ripe 91 = .ok (.istore 7, 2)) ∧ (decode cX11_ripe 93 = .ok (.iload 7, 2)) ∧ (decode cX11_ripe 95 = .ok (.aload_n 0, 1)) ∧ (decode cX11_ripe 96 = .ok (.getfield 393, 3)) ∧ (decode cX11_ripe 99 = .ok (.if_icmp .ge 38, 3)) ∧ (decode cX11_ripe 102 = .ok (.aload_n 0, 1)) ∧ (decode cX11_ripe 103 = .ok (.getfield 393, 3)) ∧ (decode cX11_ripe 106 = .ok (.sipush 4000, 3)) ∧ (decode cX11_ripe 109 = .ok (.if_icmp .gt 28, 3)) ∧ (decode cX11_ripe 112 = .ok (.aload_n 0, 1)) ∧ (decode cX11_ripe 113 = .ok (.getfield 67, 3)) ∧ (decode cX11_ripe 116 = .ok (.iload 7, 2)) ∧ (decode cX11_ripe 118 = .ok (.iaload, 1)) ∧ (decode cX11_ripe 119 = .ok (.iload 6, 2)) ∧ (decode cX11_ripe 121 = .ok (.if_icmp .ne 10, 3)) ∧ (decode cX11_ripe 124 = .ok (.aload_n 0, 1)) := by decide +kernel
theorem dX11_ripe_91 : decode cX11_ripe 91 = .ok (.istore 7, 2) := gdX11_ripe_91.1
theorem dX11_ripe_93 : decode cX11_ripe 93 = .ok (.iload 7, 2) := gdX11_ripe_91.2.1
theorem dX11_ripe_95 : decode cX11_ripe 95 = .ok (.aload_n 0, 1) := gdX11_ripe_91.2.2.1
theorem dX11_ripe_96 : decode cX11_ripe 96 = .ok (.getfield 393, 3) := gdX11_ripe_91.2.2.2.1
theorem dX11_ripe_99 : decode cX11_ripe 99 = .ok (.if_icmp .ge 38, 3) := gdX11_ripe_91.2.2.2.2.1
theorem dX11_ripe_102 : decode cX11_ripe 102 = .ok (.aload_n 0, 1) := gdX11_ripe_91.2.2.2.2.2.1
theorem dX11_ripe_103 : decode cX11_ripe 103 = .ok (.getfield 393, 3) := gdX11_ripe_91.2.2.2.2.2.2.1
theorem dX11_ripe_106 : decode cX11_ripe 106 = .ok (.sipush 4000, 3) := gdX11_ripe_91.2.2.2.2.2.2.2.1
theorem dX11_ripe_109 : decode cX11_ripe 109 = .ok (.if_icmp .gt 28, 3) := gdX11_ripe_91.2.2.2.2.2.2.2.2.1
theorem dX11_ripe_112 : decode cX11_ripe 112 = .ok (.aload_n 0, 1) := gdX11_ripe_91.2.2.2.2.2.2.2.2.2.1
theorem dX11_ripe_113 : decode cX11_ripe 113 = .ok (.getfield 67, 3) := gdX11_ripe_91.2.2.2.2.2.2.2.2.2.2.1
theorem dX11_ripe_116 : decode cX11_ripe 116 = .ok (.iload 7, 2) := gdX11_ripe_91.2.2.2.2.2.2.2.2.2.2.2.1
theorem dX11_ripe_118 : decode cX11_ripe 118 = .ok (.iaload, 1) := gdX11_ripe_91.2.2.2.2.2.2.2.2.2.2.2.2.1
theorem dX11_ripe_119 : decode cX11_ripe 119 = .ok (.iload 6, 2) := gdX11_ripe_91.2.2.2.2.2.2.2.2.2.2.2.2.2.1
theorem dX11_ripe_121 : decode cX11_ripe 121 = .ok (.if_icmp .ne 10, 3) := gdX11_ripe_91.2.2.2.2.2.2.2.2.2.2.2.2.2.2.1
theorem dX11_ripe_124 : decode cX11_ripe 124 = .ok (.aload_n 0, 1) := gdX11_ripe_91.2.2.2.2.2.2.2.2.2.2.2.2.2.2.2
theorem gdX11_ripe_125 : (decode cX11_ripe 125 = .ok (.iload 7, 2)) ∧ (decode cX11_ripe 127 = .ok (.iload_n 3, 1)) ∧ (decode cX11_ripe 128 = .ok (.invokevirtual 404, 3)) ∧ (decode cX11_ripe 131 = .ok (.iinc 7 1, 3)) ∧ (decode cX11_ripe 134 = .ok (.goto (-41), 3)) ∧ (decode cX11_ripe 137 = .ok (.iinc 6 1, 3)) ∧ (decode cX11_ripe 140 = .ok (.goto (-66), 3)) ∧ (decode cX11_ripe 143 = .ok (.aload_n 0, 1)) ∧ (decode cX11_ripe 144 = .ok (.getfield 393, 3)) ∧ (decode cX11_ripe 147 = .ok (.sipush 4000, 3)) ∧ (decode cX11_ripe 150 = .ok (.if_icmp .le 6, 3)) ∧ (decode cX11_ripe 153 = .ok (.bipush (-3), 2)) ∧ (decode cX11_ripe 155 = .ok (.ireturn, 1)) ∧ (decode cX11_ripe 156 = .ok (.bipush (-2), 2)) ∧ (decode cX11_ripe 158 = .ok (.istore 6, 2)) ∧ (decode cX11_ripe 160 = .ok (.iconst 0, 1)) := by decide +kernel
theorem dX11_ripe_125 : decode cX11_ripe 125 = .ok (.iload 7, 2) := gdX11_ripe_125.1
theorem dX11_ripe_127 : decode cX11_ripe 127 = .ok (.iload_n 3, 1) := gdX11_ripe_125.2.1
theorem dX11_ripe_128 : decode cX11_ripe 128 = .ok (.invokevirtual 404, 3) := gdX11_ripe_125.2.2.1
theorem dX11_ripe_131 : decode cX11_ripe 131 = .ok (.iinc 7 1, 3) := gdX11_ripe_125.2.2.2.1
theorem dX11_ripe_134 : decode cX11_ripe 134 = .ok (.goto (-41), 3) := gdX11_ripe_125.2.2.2.2.1
theorem dX11_ripe_137 : decode cX11_ripe 137 = .ok (.iinc 6 1, 3) := gdX11_ripe_125.2.2.2.2.2.1
theorem dX11_ripe_140 : decode cX11_ripe 140 = .ok (.goto (-66), 3) := gdX11_ripe_125.2.2.2.2.2.2.1
theorem dX11_ripe_143 : decode cX11_ripe 143 = .ok (.aload_n 0, 1) := gdX11_ripe_125.2.2.2.2.2.2.2.1
theorem dX11_ripe_144 : decode cX11_ripe 144 = .ok (.getfield 393, 3) := gdX11_ripe_125.2.2.2.2.2.2.2.2.1
theorem dX11_ripe_147 : decode cX11_ripe 147 = .ok (.sipush 4000, 3) := gdX11_ripe_125.2.2.2.2.2.2.2.2.2.1
theorem dX11_ripe_150 : decode cX11_ripe 150 = .ok (.if_icmp .le 6, 3) := gdX11_ripe_125.2.2.2.2.2.2.2.2.2.2.1
theorem dX11_ripe_153 : decode cX11_ripe 153 = .ok (.bipush (-3), 2) := gdX11_ripe_125.2.2.2.2.2.2.2.2.2.2.2.1
theorem dX11_ripe_155 : decode cX11_ripe 155 = .ok (.ireturn, 1) := gdX11_ripe_125.2.2.2.2.2.2.2.2.2.2.2.2.1
theorem dX11_ripe_156 : decode cX11_ripe 156 = .ok (.bipush (-2), 2) := gdX11_ripe_125.2.2.2.2.2.2.2.2.2.2.2.2.2.1
theorem dX11_ripe_158 : decode cX11_ripe 158 = .ok (.istore 6, 2) := gdX11_ripe_125.2.2.2.2.2.2.2.2.2.2.2.2.2.2.1
theorem dX11_ripe_160 : decode cX11_ripe 160 = .ok (.iconst 0, 1) := gdX11_ripe_125.2.2.2.2.2.2.2.2.2.2.2.2.2.2.2
theorem gdX11_ripe_161 : (decode cX11_ripe 161 = .ok (.istore 7, 2)) ∧ (decode cX11_ripe 163 = .ok (.iload 7, 2)) ∧ (decode cX11_ripe 165 = .ok (.aload_n 0, 1)) ∧ (decode cX11_ripe 166 = .ok (.getfield 393, 3)) ∧ (decode cX11_ripe 169 = .ok (.if_icmp .ge 105, 3)) ∧ (decode cX11_ripe 172 = .ok (.aload_n 0, 1)) ∧ (decode cX11_ripe 173 = .ok (.getfield 67, 3)) ∧ (decode cX11_ripe 176 = .ok (.iload 7, 2)) ∧ (decode cX11_ripe 178 = .ok (.iaload, 1)) ∧ (decode cX11_ripe 179 = .ok (.iload_n 3, 1)) ∧ (decode cX11_ripe 180 = .ok (.if_icmp .ne 54, 3)) ∧ (decode cX11_ripe 183 = .ok (.aload_n 0, 1)) ∧ (decode cX11_ripe 184 = .ok (.getfield 70, 3)) ∧ (decode cX11_ripe 187 = .ok (.iload 7, 2)) ∧ (decode cX11_ripe 189 = .ok (.iaload, 1)) ∧ (decode cX11_ripe 190 = .ok (.iload_n 2, 1)) := by decide +kernel
theorem dX11_ripe_161 : decode cX11_ripe 161 = .ok (.istore 7, 2) := gdX11_ripe_161.1
theorem dX11_ripe_163 : decode cX11_ripe 163 = .ok (.iload 7, 2) := gdX11_ripe_161.2.1
theorem dX11_ripe_165 : decode cX11_ripe 165 = .ok (.aload_n 0, 1) := gdX11_ripe_161.2.2.1
theorem dX11_ripe_166 : decode cX11_ripe 166 = .ok (.getfield 393, 3) := gdX11_ripe_161.2.2.2.1
theorem dX11_ripe_169 : decode cX11_ripe 169 = .ok (.if_icmp .ge 105, 3) := gdX11_ripe_161.2.2.2.2.1
theorem dX11_ripe_172 : decode cX11_ripe 172 = .ok (.aload_n 0, 1) := gdX11_ripe_161.2.2.2.2.2.1
theorem dX11_ripe_173 : decode cX11_ripe 173 = .ok (.getfield 67, 3) := gdX11_ripe_161.2.2.2.2.2.2.1
theorem dX11_ripe_176 : decode cX11_ripe 176 = .ok (.iload 7, 2) := gdX11_ripe_161.2.2.2.2.2.2.2.1
theorem dX11_ripe_178 : decode cX11_ripe 178 = .ok (.iaload, 1) := gdX11_ripe_161.2.2.2.2.2.2.2.2.1
theorem dX11_ripe_179 : decode cX11_ripe 179 = .ok (.iload_n 3, 1) := gdX11_ripe_161.2.2.2.2.2.2.2.2.2.1
theorem dX11_ripe_180 : decode cX11_ripe 180 = .ok (.if_icmp .ne 54, 3) := gdX11_ripe_161.2.2.2.2.2.2.2.2.2.2.1
theorem dX11_ripe_183 : decode cX11_ripe 183 = .ok (.aload_n 0, 1) := gdX11_ripe_161.2.2.2.2.2.2.2.2.2.2.2.1
theorem dX11_ripe_184 : decode cX11_ripe 184 = .ok (.getfield 70, 3) := gdX11_ripe_161.2.2.2.2.2.2.2.2.2.2.2.2.1
theorem dX11_ripe_187 : decode cX11_ripe 187 = .ok (.iload 7, 2) := gdX11_ripe_161.2.2.2.2.2.2.2.2.2.2.2.2.2.1
theorem dX11_ripe_189 : decode cX11_ripe 189 = .ok (.iaload, 1) := gdX11_ripe_161.2.2.2.2.2.2.2.2.2.2.2.2.2.2.1
theorem dX11_ripe_190 : decode cX11_ripe 190 = .ok (.iload_n 2, 1) := gdX11_ripe_161.2.2.2.2.2.2.2.2.2.2.2.2.2.2.2
theorem gdX11_ripe_191 : (decode cX11_ripe 191 = .ok (.if_icmp .ne 43, 3)) ∧ (decode cX11_ripe 194 = .ok (.aload_n 0, 1)) ∧ (decode cX11_ripe 195 = .ok (.getfield 73, 3)) ∧ (decode cX11_ripe 198 = .ok (.iload 7, 2)) ∧ (decode cX11_ripe 200 = .ok (.laload, 1)) ∧ (decode cX11_ripe 201 = .ok (.iload 4, 2)) ∧ (decode cX11_ripe 203 = .ok (.i2l, 1)) ∧ (decode cX11_ripe 204 = .ok (.ldc2_w 281, 3)) ∧ (decode cX11_ripe 207 = .ok (.lmul, 1)) ∧ (decode cX11_ripe 208 = .ok (.lcmp, 1)) ∧ (decode cX11_ripe 209 = .ok (.ifCond .lt 25, 3)) ∧ (decode cX11_ripe 212 = .ok (.aload_n 0, 1)) ∧ (decode cX11_ripe 213 = .ok (.getfield 73, 3)) ∧ (decode cX11_ripe 216 = .ok (.iload 7, 2)) ∧ (decode cX11_ripe 218 = .ok (.laload, 1)) ∧ (decode cX11_ripe 219 = .ok (.iload 5, 2)) := by decide +kernel
theorem dX11_ripe_191 : decode cX11_ripe 191 = .ok (.if_icmp .ne 43, 3) := gdX11_ripe_191.1
theorem dX11_ripe_194 : decode cX11_ripe 194 = .ok (.aload_n 0, 1) := gdX11_ripe_191.2.1
theorem dX11_ripe_195 : decode cX11_ripe 195 = .ok (.getfield 73, 3) := gdX11_ripe_191.2.2.1
theorem dX11_ripe_198 : decode cX11_ripe 198 = .ok (.iload 7, 2) := gdX11_ripe_191.2.2.2.1
theorem dX11_ripe_200 : decode cX11_ripe 200 = .ok (.laload, 1) := gdX11_ripe_191.2.2.2.2.1
theorem dX11_ripe_201 : decode cX11_ripe 201 = .ok (.iload 4, 2) := gdX11_ripe_191.2.2.2.2.2.1
theorem dX11_ripe_203 : decode cX11_ripe 203 = .ok (.i2l, 1) := gdX11_ripe_191.2.2.2.2.2.2.1
theorem dX11_ripe_204 : decode cX11_ripe 204 = .ok (.ldc2_w 281, 3) := gdX11_ripe_191.2.2.2.2.2.2.2.1
theorem dX11_ripe_207 : decode cX11_ripe 207 = .ok (.lmul, 1) := gdX11_ripe_191.2.2.2.2.2.2.2.2.1
theorem dX11_ripe_208 : decode cX11_ripe 208 = .ok (.lcmp, 1) := gdX11_ripe_191.2.2.2.2.2.2.2.2.2.1
theorem dX11_ripe_209 : decode cX11_ripe 209 = .ok (.ifCond .lt 25, 3) := gdX11_ripe_191.2.2.2.2.2.2.2.2.2.2.1
theorem dX11_ripe_212 : decode cX11_ripe 212 = .ok (.aload_n 0, 1) := gdX11_ripe_191.2.2.2.2.2.2.2.2.2.2.2.1
theorem dX11_ripe_213 : decode cX11_ripe 213 = .ok (.getfield 73, 3) := gdX11_ripe_191.2.2.2.2.2.2.2.2.2.2.2.2.1
theorem dX11_ripe_216 : decode cX11_ripe 216 = .ok (.iload 7, 2) := gdX11_ripe_191.2.2.2.2.2.2.2.2.2.2.2.2.2.1
theorem dX11_ripe_218 : decode cX11_ripe 218 = .ok (.laload, 1) := gdX11_ripe_191.2.2.2.2.2.2.2.2.2.2.2.2.2.2.1
theorem dX11_ripe_219 : decode cX11_ripe 219 = .ok (.iload 5, 2) := gdX11_ripe_191.2.2.2.2.2.2.2.2.2.2.2.2.2.2.2
theorem gdX11_ripe_221 : (decode cX11_ripe 221 = .ok (.i2l, 1)) ∧ (decode cX11_ripe 222 = .ok (.ldc2_w 281, 3)) ∧ (decode cX11_ripe 225 = .ok (.lmul, 1)) ∧ (decode cX11_ripe 226 = .ok (.lcmp, 1)) ∧ (decode cX11_ripe 227 = .ok (.ifCond .gt 7, 3)) ∧ (decode cX11_ripe 230 = .ok (.iconst 1, 1)) ∧ (decode cX11_ripe 231 = .ok (.goto 4, 3)) ∧ (decode cX11_ripe 234 = .ok (.iconst 0, 1)) ∧ (decode cX11_ripe 235 = .ok (.istore 8, 2)) ∧ (decode cX11_ripe 237 = .ok (.iload 8, 2)) ∧ (decode cX11_ripe 239 = .ok (.ifCond .eq 29, 3)) ∧ (decode cX11_ripe 242 = .ok (.iload 6, 2)) ∧ (decode cX11_ripe 244 = .ok (.ifCond .lt 15, 3)) ∧ (decode cX11_ripe 247 = .ok (.aload_n 0, 1)) ∧ (decode cX11_ripe 248 = .ok (.getfield 76, 3)) ∧ (decode cX11_ripe 251 = .ok (.iload 7, 2)) := by decide +kernel
theorem dX11_ripe_221 : decode cX11_ripe 221 = .ok (.i2l, 1) := gdX11_ripe_221.1
theorem dX11_ripe_222 : decode cX11_ripe 222 = .ok (.ldc2_w 281, 3) := gdX11_ripe_221.2.1
theorem dX11_ripe_225 : decode cX11_ripe 225 = .ok (.lmul, 1) := gdX11_ripe_221.2.2.1
theorem dX11_ripe_226 : decode cX11_ripe 226 = .ok (.lcmp, 1) := gdX11_ripe_221.2.2.2.1
theorem dX11_ripe_227 : decode cX11_ripe 227 = .ok (.ifCond .gt 7, 3) := gdX11_ripe_221.2.2.2.2.1
theorem dX11_ripe_230 : decode cX11_ripe 230 = .ok (.iconst 1, 1) := gdX11_ripe_221.2.2.2.2.2.1
theorem dX11_ripe_231 : decode cX11_ripe 231 = .ok (.goto 4, 3) := gdX11_ripe_221.2.2.2.2.2.2.1
theorem dX11_ripe_234 : decode cX11_ripe 234 = .ok (.iconst 0, 1) := gdX11_ripe_221.2.2.2.2.2.2.2.1
theorem dX11_ripe_235 : decode cX11_ripe 235 = .ok (.istore 8, 2) := gdX11_ripe_221.2.2.2.2.2.2.2.2.1
theorem dX11_ripe_237 : decode cX11_ripe 237 = .ok (.iload 8, 2) := gdX11_ripe_221.2.2.2.2.2.2.2.2.2.1
theorem dX11_ripe_239 : decode cX11_ripe 239 = .ok (.ifCond .eq 29, 3) := gdX11_ripe_221.2.2.2.2.2.2.2.2.2.2.1
theorem dX11_ripe_242 : decode cX11_ripe 242 = .ok (.iload 6, 2) := gdX11_ripe_221.2.2.2.2.2.2.2.2.2.2.2.1
theorem dX11_ripe_244 : decode cX11_ripe 244 = .ok (.ifCond .lt 15, 3) := gdX11_ripe_221.2.2.2.2.2.2.2.2.2.2.2.2.1
theorem dX11_ripe_247 : decode cX11_ripe 247 = .ok (.aload_n 0, 1) := gdX11_ripe_221.2.2.2.2.2.2.2.2.2.2.2.2.2.1
theorem dX11_ripe_248 : decode cX11_ripe 248 = .ok (.getfield 76, 3) := gdX11_ripe_221.2.2.2.2.2.2.2.2.2.2.2.2.2.2.1
theorem dX11_ripe_251 : decode cX11_ripe 251 = .ok (.iload 7, 2) := gdX11_ripe_221.2.2.2.2.2.2.2.2.2.2.2.2.2.2.2
theorem gdX11_ripe_253 : (decode cX11_ripe 253 = .ok (.iaload, 1)) ∧ (decode cX11_ripe 254 = .ok (.iload 6, 2)) ∧ (decode cX11_ripe 256 = .ok (.if_icmp .ge 12, 3)) ∧ (decode cX11_ripe 259 = .ok (.aload_n 0, 1)) ∧ (decode cX11_ripe 260 = .ok (.getfield 76, 3)) ∧ (decode cX11_ripe 263 = .ok (.iload 7, 2)) ∧ (decode cX11_ripe 265 = .ok (.iaload, 1)) ∧ (decode cX11_ripe 266 = .ok (.istore 6, 2)) ∧ (decode cX11_ripe 268 = .ok (.iinc 7 1, 3)) ∧ (decode cX11_ripe 271 = .ok (.goto (-108), 3)) ∧ (decode cX11_ripe 274 = .ok (.iload 6, 2)) ∧ (decode cX11_ripe 276 = .ok (.ireturn, 1)) := by decide +kernel
theorem dX11_ripe_253 : decode cX11_ripe 253 = .ok (.iaload, 1) := gdX11_ripe_253.1
theorem dX11_ripe_254 : decode cX11_ripe 254 = .ok (.iload 6, 2) := gdX11_ripe_253.2.1
theorem dX11_ripe_256 : decode cX11_ripe 256 = .ok (.if_icmp .ge 12, 3) := gdX11_ripe_253.2.2.1
theorem dX11_ripe_259 : decode cX11_ripe 259 = .ok (.aload_n 0, 1) := gdX11_ripe_253.2.2.2.1
theorem dX11_ripe_260 : decode cX11_ripe 260 = .ok (.getfield 76, 3) := gdX11_ripe_253.2.2.2.2.1
theorem dX11_ripe_263 : decode cX11_ripe 263 = .ok (.iload 7, 2) := gdX11_ripe_253.2.2.2.2.2.1
theorem dX11_ripe_265 : decode cX11_ripe 265 = .ok (.iaload, 1) := gdX11_ripe_253.2.2.2.2.2.2.1
theorem dX11_ripe_266 : decode cX11_ripe 266 = .ok (.istore 6, 2) := gdX11_ripe_253.2.2.2.2.2.2.2.1
theorem dX11_ripe_268 : decode cX11_ripe 268 = .ok (.iinc 7 1, 3) := gdX11_ripe_253.2.2.2.2.2.2.2.2.1
theorem dX11_ripe_271 : decode cX11_ripe 271 = .ok (.goto (-108), 3) := gdX11_ripe_253.2.2.2.2.2.2.2.2.2.1
theorem dX11_ripe_274 : decode cX11_ripe 274 = .ok (.iload 6, 2) := gdX11_ripe_253.2.2.2.2.2.2.2.2.2.2.1
theorem dX11_ripe_276 : decode cX11_ripe 276 = .ok (.ireturn, 1) := gdX11_ripe_253.2.2.2.2.2.2.2.2.2.2.2
theorem gdX11_owed_0 : (decode cX11_owed 0 = .ok (.aload_n 0, 1)) ∧ (decode cX11_owed 1 = .ok (.iload_n 1, 1)) ∧ (decode cX11_owed 2 = .ok (.invokevirtual 299, 3)) ∧ (decode cX11_owed 5 = .ok (.ifCond .eq 51, 3)) ∧ (decode cX11_owed 8 = .ok (.iload_n 2, 1)) ∧ (decode cX11_owed 9 = .ok (.i2l, 1)) ∧ (decode cX11_owed 10 = .ok (.lconst 1, 1)) ∧ (decode cX11_owed 11 = .ok (.ldc2_w 365, 3)) ∧ (decode cX11_owed 14 = .ok (.invokestatic 131, 3)) ∧ (decode cX11_owed 17 = .ok (.ifCond .eq 39, 3)) ∧ (decode cX11_owed 20 = .ok (.iload_n 3, 1)) ∧ (decode cX11_owed 21 = .ok (.i2l, 1)) ∧ (decode cX11_owed 22 = .ok (.lconst 0, 1)) ∧ (decode cX11_owed 23 = .ok (.ldc2_w 402, 3)) ∧ (decode cX11_owed 26 = .ok (.invokestatic 131, 3)) ∧ (decode cX11_owed 29 = .ok (.ifCond .eq 27, 3)) := by decide +kernel
theorem dX11_owed_0 : decode cX11_owed 0 = .ok (.aload_n 0, 1) := gdX11_owed_0.1
theorem dX11_owed_1 : decode cX11_owed 1 = .ok (.iload_n 1, 1) := gdX11_owed_0.2.1
theorem dX11_owed_2 : decode cX11_owed 2 = .ok (.invokevirtual 299, 3) := gdX11_owed_0.2.2.1
theorem dX11_owed_5 : decode cX11_owed 5 = .ok (.ifCond .eq 51, 3) := gdX11_owed_0.2.2.2.1
theorem dX11_owed_8 : decode cX11_owed 8 = .ok (.iload_n 2, 1) := gdX11_owed_0.2.2.2.2.1
theorem dX11_owed_9 : decode cX11_owed 9 = .ok (.i2l, 1) := gdX11_owed_0.2.2.2.2.2.1
theorem dX11_owed_10 : decode cX11_owed 10 = .ok (.lconst 1, 1) := gdX11_owed_0.2.2.2.2.2.2.1
theorem dX11_owed_11 : decode cX11_owed 11 = .ok (.ldc2_w 365, 3) := gdX11_owed_0.2.2.2.2.2.2.2.1
theorem dX11_owed_14 : decode cX11_owed 14 = .ok (.invokestatic 131, 3) := gdX11_owed_0.2.2.2.2.2.2.2.2.1
theorem dX11_owed_17 : decode cX11_owed 17 = .ok (.ifCond .eq 39, 3) := gdX11_owed_0.2.2.2.2.2.2.2.2.2.1
theorem dX11_owed_20 : decode cX11_owed 20 = .ok (.iload_n 3, 1) := gdX11_owed_0.2.2.2.2.2.2.2.2.2.2.1
theorem dX11_owed_21 : decode cX11_owed 21 = .ok (.i2l, 1) := gdX11_owed_0.2.2.2.2.2.2.2.2.2.2.2.1
theorem dX11_owed_22 : decode cX11_owed 22 = .ok (.lconst 0, 1) := gdX11_owed_0.2.2.2.2.2.2.2.2.2.2.2.2.1
theorem dX11_owed_23 : decode cX11_owed 23 = .ok (.ldc2_w 402, 3) := gdX11_owed_0.2.2.2.2.2.2.2.2.2.2.2.2.2.1
theorem dX11_owed_26 : decode cX11_owed 26 = .ok (.invokestatic 131, 3) := gdX11_owed_0.2.2.2.2.2.2.2.2.2.2.2.2.2.2.1
theorem dX11_owed_29 : decode cX11_owed 29 = .ok (.ifCond .eq 27, 3) := gdX11_owed_0.2.2.2.2.2.2.2.2.2.2.2.2.2.2.2
theorem gdX11_owed_32 : (decode cX11_owed 32 = .ok (.iload 4, 2)) ∧ (decode cX11_owed 34 = .ok (.i2l, 1)) ∧ (decode cX11_owed 35 = .ok (.lconst 0, 1)) ∧ (decode cX11_owed 36 = .ok (.ldc2_w 365, 3)) ∧ (decode cX11_owed 39 = .ok (.invokestatic 131, 3)) ∧ (decode cX11_owed 42 = .ok (.ifCond .eq 14, 3)) ∧ (decode cX11_owed 45 = .ok (.iload 5, 2)) ∧ (decode cX11_owed 47 = .ok (.i2l, 1)) ∧ (decode cX11_owed 48 = .ok (.lconst 0, 1)) ∧ (decode cX11_owed 49 = .ok (.lconst 1, 1)) ∧ (decode cX11_owed 50 = .ok (.invokestatic 131, 3)) ∧ (decode cX11_owed 53 = .ok (.ifCond .ne 7, 3)) ∧ (decode cX11_owed 56 = .ok (.ldc2_w 321, 3)) ∧ (decode cX11_owed 59 = .ok (.lreturn, 1)) ∧ (decode cX11_owed 60 = .ok (.ldc2_w 407, 3)) ∧ (decode cX11_owed 63 = .ok (.aload_n 0, 1)) := by decide +kernel
theorem dX11_owed_32 : decode cX11_owed 32 = .ok (.iload 4, 2) := gdX11_owed_32.1
theorem dX11_owed_34 : decode cX11_owed 34 = .ok (.i2l, 1) := gdX11_owed_32.2.1
theorem dX11_owed_35 : decode cX11_owed 35 = .ok (.lconst 0, 1) := gdX11_owed_32.2.2.1
theorem dX11_owed_36 : decode cX11_owed 36 = .ok (.ldc2_w 365, 3) := gdX11_owed_32.2.2.2.1
theorem dX11_owed_39 : decode cX11_owed 39 = .ok (.invokestatic 131, 3) := gdX11_owed_32.2.2.2.2.1
theorem dX11_owed_42 : decode cX11_owed 42 = .ok (.ifCond .eq 14, 3) := gdX11_owed_32.2.2.2.2.2.1
theorem dX11_owed_45 : decode cX11_owed 45 = .ok (.iload 5, 2) := gdX11_owed_32.2.2.2.2.2.2.1
theorem dX11_owed_47 : decode cX11_owed 47 = .ok (.i2l, 1) := gdX11_owed_32.2.2.2.2.2.2.2.1
theorem dX11_owed_48 : decode cX11_owed 48 = .ok (.lconst 0, 1) := gdX11_owed_32.2.2.2.2.2.2.2.2.1
theorem dX11_owed_49 : decode cX11_owed 49 = .ok (.lconst 1, 1) := gdX11_owed_32.2.2.2.2.2.2.2.2.2.1
theorem dX11_owed_50 : decode cX11_owed 50 = .ok (.invokestatic 131, 3) := gdX11_owed_32.2.2.2.2.2.2.2.2.2.2.1
theorem dX11_owed_53 : decode cX11_owed 53 = .ok (.ifCond .ne 7, 3) := gdX11_owed_32.2.2.2.2.2.2.2.2.2.2.2.1
theorem dX11_owed_56 : decode cX11_owed 56 = .ok (.ldc2_w 321, 3) := gdX11_owed_32.2.2.2.2.2.2.2.2.2.2.2.2.1
theorem dX11_owed_59 : decode cX11_owed 59 = .ok (.lreturn, 1) := gdX11_owed_32.2.2.2.2.2.2.2.2.2.2.2.2.2.1
theorem dX11_owed_60 : decode cX11_owed 60 = .ok (.ldc2_w 407, 3) := gdX11_owed_32.2.2.2.2.2.2.2.2.2.2.2.2.2.2.1
theorem dX11_owed_63 : decode cX11_owed 63 = .ok (.aload_n 0, 1) := gdX11_owed_32.2.2.2.2.2.2.2.2.2.2.2.2.2.2.2
theorem gdX11_owed_64 : (decode cX11_owed 64 = .ok (.getfield 45, 3)) ∧ (decode cX11_owed 67 = .ok (.bipush 10, 2)) ∧ (decode cX11_owed 69 = .ok (.iconst 2, 1)) ∧ (decode cX11_owed 70 = .ok (.iload_n 1, 1)) ∧ (decode cX11_owed 71 = .ok (.imul, 1)) ∧ (decode cX11_owed 72 = .ok (.iadd, 1)) ∧ (decode cX11_owed 73 = .ok (.iconst 1, 1)) ∧ (decode cX11_owed 74 = .ok (.iadd, 1)) ∧ (decode cX11_owed 75 = .ok (.iaload, 1)) ∧ (decode cX11_owed 76 = .ok (.i2l, 1)) ∧ (decode cX11_owed 77 = .ok (.lmul, 1)) ∧ (decode cX11_owed 78 = .ok (.lstore 6, 2)) ∧ (decode cX11_owed 80 = .ok (.iload_n 2, 1)) ∧ (decode cX11_owed 81 = .ok (.i2l, 1)) ∧ (decode cX11_owed 82 = .ok (.lload 6, 2)) ∧ (decode cX11_owed 84 = .ok (.lmul, 1)) := by decide +kernel
theorem dX11_owed_64 : decode cX11_owed 64 = .ok (.getfield 45, 3) := gdX11_owed_64.1
theorem dX11_owed_67 : decode cX11_owed 67 = .ok (.bipush 10, 2) := gdX11_owed_64.2.1
theorem dX11_owed_69 : decode cX11_owed 69 = .ok (.iconst 2, 1) := gdX11_owed_64.2.2.1
theorem dX11_owed_70 : decode cX11_owed 70 = .ok (.iload_n 1, 1) := gdX11_owed_64.2.2.2.1
theorem dX11_owed_71 : decode cX11_owed 71 = .ok (.imul, 1) := gdX11_owed_64.2.2.2.2.1
theorem dX11_owed_72 : decode cX11_owed 72 = .ok (.iadd, 1) := gdX11_owed_64.2.2.2.2.2.1
theorem dX11_owed_73 : decode cX11_owed 73 = .ok (.iconst 1, 1) := gdX11_owed_64.2.2.2.2.2.2.1
theorem dX11_owed_74 : decode cX11_owed 74 = .ok (.iadd, 1) := gdX11_owed_64.2.2.2.2.2.2.2.1
theorem dX11_owed_75 : decode cX11_owed 75 = .ok (.iaload, 1) := gdX11_owed_64.2.2.2.2.2.2.2.2.1
theorem dX11_owed_76 : decode cX11_owed 76 = .ok (.i2l, 1) := gdX11_owed_64.2.2.2.2.2.2.2.2.2.1
theorem dX11_owed_77 : decode cX11_owed 77 = .ok (.lmul, 1) := gdX11_owed_64.2.2.2.2.2.2.2.2.2.2.1
theorem dX11_owed_78 : decode cX11_owed 78 = .ok (.lstore 6, 2) := gdX11_owed_64.2.2.2.2.2.2.2.2.2.2.2.1
theorem dX11_owed_80 : decode cX11_owed 80 = .ok (.iload_n 2, 1) := gdX11_owed_64.2.2.2.2.2.2.2.2.2.2.2.2.1
theorem dX11_owed_81 : decode cX11_owed 81 = .ok (.i2l, 1) := gdX11_owed_64.2.2.2.2.2.2.2.2.2.2.2.2.2.1
theorem dX11_owed_82 : decode cX11_owed 82 = .ok (.lload 6, 2) := gdX11_owed_64.2.2.2.2.2.2.2.2.2.2.2.2.2.2.1
theorem dX11_owed_84 : decode cX11_owed 84 = .ok (.lmul, 1) := gdX11_owed_64.2.2.2.2.2.2.2.2.2.2.2.2.2.2.2
theorem gdX11_owed_85 : (decode cX11_owed 85 = .ok (.iload_n 2, 1)) ∧ (decode cX11_owed 86 = .ok (.i2l, 1)) ∧ (decode cX11_owed 87 = .ok (.iload_n 3, 1)) ∧ (decode cX11_owed 88 = .ok (.i2l, 1)) ∧ (decode cX11_owed 89 = .ok (.lmul, 1)) ∧ (decode cX11_owed 90 = .ok (.iload 4, 2)) ∧ (decode cX11_owed 92 = .ok (.i2l, 1)) ∧ (decode cX11_owed 93 = .ok (.lmul, 1)) ∧ (decode cX11_owed 94 = .ok (.aload_n 0, 1)) ∧ (decode cX11_owed 95 = .ok (.getfield 45, 3)) ∧ (decode cX11_owed 98 = .ok (.bipush 10, 2)) ∧ (decode cX11_owed 100 = .ok (.iconst 2, 1)) ∧ (decode cX11_owed 101 = .ok (.iload_n 1, 1)) ∧ (decode cX11_owed 102 = .ok (.imul, 1)) ∧ (decode cX11_owed 103 = .ok (.iadd, 1)) ∧ (decode cX11_owed 104 = .ok (.iaload, 1)) := by decide +kernel
theorem dX11_owed_85 : decode cX11_owed 85 = .ok (.iload_n 2, 1) := gdX11_owed_85.1
theorem dX11_owed_86 : decode cX11_owed 86 = .ok (.i2l, 1) := gdX11_owed_85.2.1
theorem dX11_owed_87 : decode cX11_owed 87 = .ok (.iload_n 3, 1) := gdX11_owed_85.2.2.1
theorem dX11_owed_88 : decode cX11_owed 88 = .ok (.i2l, 1) := gdX11_owed_85.2.2.2.1
theorem dX11_owed_89 : decode cX11_owed 89 = .ok (.lmul, 1) := gdX11_owed_85.2.2.2.2.1
theorem dX11_owed_90 : decode cX11_owed 90 = .ok (.iload 4, 2) := gdX11_owed_85.2.2.2.2.2.1
theorem dX11_owed_92 : decode cX11_owed 92 = .ok (.i2l, 1) := gdX11_owed_85.2.2.2.2.2.2.1
theorem dX11_owed_93 : decode cX11_owed 93 = .ok (.lmul, 1) := gdX11_owed_85.2.2.2.2.2.2.2.1
theorem dX11_owed_94 : decode cX11_owed 94 = .ok (.aload_n 0, 1) := gdX11_owed_85.2.2.2.2.2.2.2.2.1
theorem dX11_owed_95 : decode cX11_owed 95 = .ok (.getfield 45, 3) := gdX11_owed_85.2.2.2.2.2.2.2.2.2.1
theorem dX11_owed_98 : decode cX11_owed 98 = .ok (.bipush 10, 2) := gdX11_owed_85.2.2.2.2.2.2.2.2.2.2.1
theorem dX11_owed_100 : decode cX11_owed 100 = .ok (.iconst 2, 1) := gdX11_owed_85.2.2.2.2.2.2.2.2.2.2.2.1
theorem dX11_owed_101 : decode cX11_owed 101 = .ok (.iload_n 1, 1) := gdX11_owed_85.2.2.2.2.2.2.2.2.2.2.2.2.1
theorem dX11_owed_102 : decode cX11_owed 102 = .ok (.imul, 1) := gdX11_owed_85.2.2.2.2.2.2.2.2.2.2.2.2.2.1
theorem dX11_owed_103 : decode cX11_owed 103 = .ok (.iadd, 1) := gdX11_owed_85.2.2.2.2.2.2.2.2.2.2.2.2.2.2.1
theorem dX11_owed_104 : decode cX11_owed 104 = .ok (.iaload, 1) := gdX11_owed_85.2.2.2.2.2.2.2.2.2.2.2.2.2.2.2
theorem gdX11_owed_105 : (decode cX11_owed 105 = .ok (.i2l, 1)) ∧ (decode cX11_owed 106 = .ok (.lmul, 1)) ∧ (decode cX11_owed 107 = .ok (.ladd, 1)) ∧ (decode cX11_owed 108 = .ok (.lload 6, 2)) ∧ (decode cX11_owed 110 = .ok (.iload 5, 2)) ∧ (decode cX11_owed 112 = .ok (.invokestatic 307, 3)) ∧ (decode cX11_owed 115 = .ok (.lreturn, 1)) := by decide +kernel
theorem dX11_owed_105 : decode cX11_owed 105 = .ok (.i2l, 1) := gdX11_owed_105.1
theorem dX11_owed_106 : decode cX11_owed 106 = .ok (.lmul, 1) := gdX11_owed_105.2.1
theorem dX11_owed_107 : decode cX11_owed 107 = .ok (.ladd, 1) := gdX11_owed_105.2.2.1
theorem dX11_owed_108 : decode cX11_owed 108 = .ok (.lload 6, 2) := gdX11_owed_105.2.2.2.1
theorem dX11_owed_110 : decode cX11_owed 110 = .ok (.iload 5, 2) := gdX11_owed_105.2.2.2.2.1
theorem dX11_owed_112 : decode cX11_owed 112 = .ok (.invokestatic 307, 3) := gdX11_owed_105.2.2.2.2.2.1
theorem dX11_owed_115 : decode cX11_owed 115 = .ok (.lreturn, 1) := gdX11_owed_105.2.2.2.2.2.2
theorem gdX11_hands_0 : (decode cX11_hands 0 = .ok (.aload_n 0, 1)) ∧ (decode cX11_hands 1 = .ok (.iload_n 1, 1)) ∧ (decode cX11_hands 2 = .ok (.invokevirtual 299, 3)) ∧ (decode cX11_hands 5 = .ok (.ifCond .eq 36, 3)) ∧ (decode cX11_hands 8 = .ok (.aload_n 0, 1)) ∧ (decode cX11_hands 9 = .ok (.iload_n 2, 1)) ∧ (decode cX11_hands 10 = .ok (.invokevirtual 299, 3)) ∧ (decode cX11_hands 13 = .ok (.ifCond .eq 28, 3)) ∧ (decode cX11_hands 16 = .ok (.iload_n 3, 1)) ∧ (decode cX11_hands 17 = .ok (.i2l, 1)) ∧ (decode cX11_hands 18 = .ok (.lconst 1, 1)) ∧ (decode cX11_hands 19 = .ok (.ldc2_w 365, 3)) ∧ (decode cX11_hands 22 = .ok (.invokestatic 131, 3)) ∧ (decode cX11_hands 25 = .ok (.ifCond .eq 16, 3)) ∧ (decode cX11_hands 28 = .ok (.iload 4, 2)) ∧ (decode cX11_hands 30 = .ok (.i2l, 1)) := by decide +kernel
theorem dX11_hands_0 : decode cX11_hands 0 = .ok (.aload_n 0, 1) := gdX11_hands_0.1
theorem dX11_hands_1 : decode cX11_hands 1 = .ok (.iload_n 1, 1) := gdX11_hands_0.2.1
theorem dX11_hands_2 : decode cX11_hands 2 = .ok (.invokevirtual 299, 3) := gdX11_hands_0.2.2.1
theorem dX11_hands_5 : decode cX11_hands 5 = .ok (.ifCond .eq 36, 3) := gdX11_hands_0.2.2.2.1
theorem dX11_hands_8 : decode cX11_hands 8 = .ok (.aload_n 0, 1) := gdX11_hands_0.2.2.2.2.1
theorem dX11_hands_9 : decode cX11_hands 9 = .ok (.iload_n 2, 1) := gdX11_hands_0.2.2.2.2.2.1
theorem dX11_hands_10 : decode cX11_hands 10 = .ok (.invokevirtual 299, 3) := gdX11_hands_0.2.2.2.2.2.2.1
theorem dX11_hands_13 : decode cX11_hands 13 = .ok (.ifCond .eq 28, 3) := gdX11_hands_0.2.2.2.2.2.2.2.1
theorem dX11_hands_16 : decode cX11_hands 16 = .ok (.iload_n 3, 1) := gdX11_hands_0.2.2.2.2.2.2.2.2.1
theorem dX11_hands_17 : decode cX11_hands 17 = .ok (.i2l, 1) := gdX11_hands_0.2.2.2.2.2.2.2.2.2.1
theorem dX11_hands_18 : decode cX11_hands 18 = .ok (.lconst 1, 1) := gdX11_hands_0.2.2.2.2.2.2.2.2.2.2.1
theorem dX11_hands_19 : decode cX11_hands 19 = .ok (.ldc2_w 365, 3) := gdX11_hands_0.2.2.2.2.2.2.2.2.2.2.2.1
theorem dX11_hands_22 : decode cX11_hands 22 = .ok (.invokestatic 131, 3) := gdX11_hands_0.2.2.2.2.2.2.2.2.2.2.2.2.1
theorem dX11_hands_25 : decode cX11_hands 25 = .ok (.ifCond .eq 16, 3) := gdX11_hands_0.2.2.2.2.2.2.2.2.2.2.2.2.2.1
theorem dX11_hands_28 : decode cX11_hands 28 = .ok (.iload 4, 2) := gdX11_hands_0.2.2.2.2.2.2.2.2.2.2.2.2.2.2.1
theorem dX11_hands_30 : decode cX11_hands 30 = .ok (.i2l, 1) := gdX11_hands_0.2.2.2.2.2.2.2.2.2.2.2.2.2.2.2
theorem gdX11_hands_31 : (decode cX11_hands 31 = .ok (.lconst 1, 1)) ∧ (decode cX11_hands 32 = .ok (.ldc2_w 365, 3)) ∧ (decode cX11_hands 35 = .ok (.invokestatic 131, 3)) ∧ (decode cX11_hands 38 = .ok (.ifCond .ne 5, 3)) ∧ (decode cX11_hands 41 = .ok (.iconst (-1), 1)) ∧ (decode cX11_hands 42 = .ok (.ireturn, 1)) ∧ (decode cX11_hands 43 = .ok (.iload_n 3, 1)) ∧ (decode cX11_hands 44 = .ok (.i2l, 1)) ∧ (decode cX11_hands 45 = .ok (.aload_n 0, 1)) ∧ (decode cX11_hands 46 = .ok (.getfield 45, 3)) ∧ (decode cX11_hands 49 = .ok (.bipush 10, 2)) ∧ (decode cX11_hands 51 = .ok (.iconst 2, 1)) ∧ (decode cX11_hands 52 = .ok (.iload_n 2, 1)) ∧ (decode cX11_hands 53 = .ok (.imul, 1)) ∧ (decode cX11_hands 54 = .ok (.iadd, 1)) ∧ (decode cX11_hands 55 = .ok (.iaload, 1)) := by decide +kernel
theorem dX11_hands_31 : decode cX11_hands 31 = .ok (.lconst 1, 1) := gdX11_hands_31.1
theorem dX11_hands_32 : decode cX11_hands 32 = .ok (.ldc2_w 365, 3) := gdX11_hands_31.2.1
theorem dX11_hands_35 : decode cX11_hands 35 = .ok (.invokestatic 131, 3) := gdX11_hands_31.2.2.1
theorem dX11_hands_38 : decode cX11_hands 38 = .ok (.ifCond .ne 5, 3) := gdX11_hands_31.2.2.2.1
theorem dX11_hands_41 : decode cX11_hands 41 = .ok (.iconst (-1), 1) := gdX11_hands_31.2.2.2.2.1
theorem dX11_hands_42 : decode cX11_hands 42 = .ok (.ireturn, 1) := gdX11_hands_31.2.2.2.2.2.1
theorem dX11_hands_43 : decode cX11_hands 43 = .ok (.iload_n 3, 1) := gdX11_hands_31.2.2.2.2.2.2.1
theorem dX11_hands_44 : decode cX11_hands 44 = .ok (.i2l, 1) := gdX11_hands_31.2.2.2.2.2.2.2.1
theorem dX11_hands_45 : decode cX11_hands 45 = .ok (.aload_n 0, 1) := gdX11_hands_31.2.2.2.2.2.2.2.2.1
theorem dX11_hands_46 : decode cX11_hands 46 = .ok (.getfield 45, 3) := gdX11_hands_31.2.2.2.2.2.2.2.2.2.1
theorem dX11_hands_49 : decode cX11_hands 49 = .ok (.bipush 10, 2) := gdX11_hands_31.2.2.2.2.2.2.2.2.2.2.1
theorem dX11_hands_51 : decode cX11_hands 51 = .ok (.iconst 2, 1) := gdX11_hands_31.2.2.2.2.2.2.2.2.2.2.2.1
theorem dX11_hands_52 : decode cX11_hands 52 = .ok (.iload_n 2, 1) := gdX11_hands_31.2.2.2.2.2.2.2.2.2.2.2.2.1
theorem dX11_hands_53 : decode cX11_hands 53 = .ok (.imul, 1) := gdX11_hands_31.2.2.2.2.2.2.2.2.2.2.2.2.2.1
theorem dX11_hands_54 : decode cX11_hands 54 = .ok (.iadd, 1) := gdX11_hands_31.2.2.2.2.2.2.2.2.2.2.2.2.2.2.1
theorem dX11_hands_55 : decode cX11_hands 55 = .ok (.iaload, 1) := gdX11_hands_31.2.2.2.2.2.2.2.2.2.2.2.2.2.2.2
theorem gdX11_hands_56 : (decode cX11_hands 56 = .ok (.i2l, 1)) ∧ (decode cX11_hands 57 = .ok (.lmul, 1)) ∧ (decode cX11_hands 58 = .ok (.aload_n 0, 1)) ∧ (decode cX11_hands 59 = .ok (.getfield 45, 3)) ∧ (decode cX11_hands 62 = .ok (.bipush 10, 2)) ∧ (decode cX11_hands 64 = .ok (.iconst 2, 1)) ∧ (decode cX11_hands 65 = .ok (.iload_n 1, 1)) ∧ (decode cX11_hands 66 = .ok (.imul, 1)) ∧ (decode cX11_hands 67 = .ok (.iadd, 1)) ∧ (decode cX11_hands 68 = .ok (.iconst 1, 1)) ∧ (decode cX11_hands 69 = .ok (.iadd, 1)) ∧ (decode cX11_hands 70 = .ok (.iaload, 1)) ∧ (decode cX11_hands 71 = .ok (.i2l, 1)) ∧ (decode cX11_hands 72 = .ok (.lmul, 1)) ∧ (decode cX11_hands 73 = .ok (.lstore 5, 2)) ∧ (decode cX11_hands 75 = .ok (.iload 4, 2)) := by decide +kernel
theorem dX11_hands_56 : decode cX11_hands 56 = .ok (.i2l, 1) := gdX11_hands_56.1
theorem dX11_hands_57 : decode cX11_hands 57 = .ok (.lmul, 1) := gdX11_hands_56.2.1
theorem dX11_hands_58 : decode cX11_hands 58 = .ok (.aload_n 0, 1) := gdX11_hands_56.2.2.1
theorem dX11_hands_59 : decode cX11_hands 59 = .ok (.getfield 45, 3) := gdX11_hands_56.2.2.2.1
theorem dX11_hands_62 : decode cX11_hands 62 = .ok (.bipush 10, 2) := gdX11_hands_56.2.2.2.2.1
theorem dX11_hands_64 : decode cX11_hands 64 = .ok (.iconst 2, 1) := gdX11_hands_56.2.2.2.2.2.1
theorem dX11_hands_65 : decode cX11_hands 65 = .ok (.iload_n 1, 1) := gdX11_hands_56.2.2.2.2.2.2.1
theorem dX11_hands_66 : decode cX11_hands 66 = .ok (.imul, 1) := gdX11_hands_56.2.2.2.2.2.2.2.1
theorem dX11_hands_67 : decode cX11_hands 67 = .ok (.iadd, 1) := gdX11_hands_56.2.2.2.2.2.2.2.2.1
theorem dX11_hands_68 : decode cX11_hands 68 = .ok (.iconst 1, 1) := gdX11_hands_56.2.2.2.2.2.2.2.2.2.1
theorem dX11_hands_69 : decode cX11_hands 69 = .ok (.iadd, 1) := gdX11_hands_56.2.2.2.2.2.2.2.2.2.2.1
theorem dX11_hands_70 : decode cX11_hands 70 = .ok (.iaload, 1) := gdX11_hands_56.2.2.2.2.2.2.2.2.2.2.2.1
theorem dX11_hands_71 : decode cX11_hands 71 = .ok (.i2l, 1) := gdX11_hands_56.2.2.2.2.2.2.2.2.2.2.2.2.1
theorem dX11_hands_72 : decode cX11_hands 72 = .ok (.lmul, 1) := gdX11_hands_56.2.2.2.2.2.2.2.2.2.2.2.2.2.1
theorem dX11_hands_73 : decode cX11_hands 73 = .ok (.lstore 5, 2) := gdX11_hands_56.2.2.2.2.2.2.2.2.2.2.2.2.2.2.1
theorem dX11_hands_75 : decode cX11_hands 75 = .ok (.iload 4, 2) := gdX11_hands_56.2.2.2.2.2.2.2.2.2.2.2.2.2.2.2
theorem gdX11_hands_77 : (decode cX11_hands 77 = .ok (.i2l, 1)) ∧ (decode cX11_hands 78 = .ok (.aload_n 0, 1)) ∧ (decode cX11_hands 79 = .ok (.getfield 45, 3)) ∧ (decode cX11_hands 82 = .ok (.bipush 10, 2)) ∧ (decode cX11_hands 84 = .ok (.iconst 2, 1)) ∧ (decode cX11_hands 85 = .ok (.iload_n 2, 1)) ∧ (decode cX11_hands 86 = .ok (.imul, 1)) ∧ (decode cX11_hands 87 = .ok (.iadd, 1)) ∧ (decode cX11_hands 88 = .ok (.iconst 1, 1)) ∧ (decode cX11_hands 89 = .ok (.iadd, 1)) ∧ (decode cX11_hands 90 = .ok (.iaload, 1)) ∧ (decode cX11_hands 91 = .ok (.i2l, 1)) ∧ (decode cX11_hands 92 = .ok (.lmul, 1)) ∧ (decode cX11_hands 93 = .ok (.aload_n 0, 1)) ∧ (decode cX11_hands 94 = .ok (.getfield 45, 3)) ∧ (decode cX11_hands 97 = .ok (.bipush 10, 2)) := by decide +kernel
theorem dX11_hands_77 : decode cX11_hands 77 = .ok (.i2l, 1) := gdX11_hands_77.1
theorem dX11_hands_78 : decode cX11_hands 78 = .ok (.aload_n 0, 1) := gdX11_hands_77.2.1
theorem dX11_hands_79 : decode cX11_hands 79 = .ok (.getfield 45, 3) := gdX11_hands_77.2.2.1
theorem dX11_hands_82 : decode cX11_hands 82 = .ok (.bipush 10, 2) := gdX11_hands_77.2.2.2.1
theorem dX11_hands_84 : decode cX11_hands 84 = .ok (.iconst 2, 1) := gdX11_hands_77.2.2.2.2.1
theorem dX11_hands_85 : decode cX11_hands 85 = .ok (.iload_n 2, 1) := gdX11_hands_77.2.2.2.2.2.1
theorem dX11_hands_86 : decode cX11_hands 86 = .ok (.imul, 1) := gdX11_hands_77.2.2.2.2.2.2.1
theorem dX11_hands_87 : decode cX11_hands 87 = .ok (.iadd, 1) := gdX11_hands_77.2.2.2.2.2.2.2.1
theorem dX11_hands_88 : decode cX11_hands 88 = .ok (.iconst 1, 1) := gdX11_hands_77.2.2.2.2.2.2.2.2.1
theorem dX11_hands_89 : decode cX11_hands 89 = .ok (.iadd, 1) := gdX11_hands_77.2.2.2.2.2.2.2.2.2.1
theorem dX11_hands_90 : decode cX11_hands 90 = .ok (.iaload, 1) := gdX11_hands_77.2.2.2.2.2.2.2.2.2.2.1
theorem dX11_hands_91 : decode cX11_hands 91 = .ok (.i2l, 1) := gdX11_hands_77.2.2.2.2.2.2.2.2.2.2.2.1
theorem dX11_hands_92 : decode cX11_hands 92 = .ok (.lmul, 1) := gdX11_hands_77.2.2.2.2.2.2.2.2.2.2.2.2.1
theorem dX11_hands_93 : decode cX11_hands 93 = .ok (.aload_n 0, 1) := gdX11_hands_77.2.2.2.2.2.2.2.2.2.2.2.2.2.1
theorem dX11_hands_94 : decode cX11_hands 94 = .ok (.getfield 45, 3) := gdX11_hands_77.2.2.2.2.2.2.2.2.2.2.2.2.2.2.1
theorem dX11_hands_97 : decode cX11_hands 97 = .ok (.bipush 10, 2) := gdX11_hands_77.2.2.2.2.2.2.2.2.2.2.2.2.2.2.2
theorem gdX11_hands_99 : (decode cX11_hands 99 = .ok (.iconst 2, 1)) ∧ (decode cX11_hands 100 = .ok (.iload_n 1, 1)) ∧ (decode cX11_hands 101 = .ok (.imul, 1)) ∧ (decode cX11_hands 102 = .ok (.iadd, 1)) ∧ (decode cX11_hands 103 = .ok (.iaload, 1)) ∧ (decode cX11_hands 104 = .ok (.i2l, 1)) ∧ (decode cX11_hands 105 = .ok (.lmul, 1)) ∧ (decode cX11_hands 106 = .ok (.lstore 7, 2)) ∧ (decode cX11_hands 108 = .ok (.lload 5, 2)) ∧ (decode cX11_hands 110 = .ok (.lload 7, 2)) ∧ (decode cX11_hands 112 = .ok (.ladd, 1)) ∧ (decode cX11_hands 113 = .ok (.lconst 1, 1)) ∧ (decode cX11_hands 114 = .ok (.lsub, 1)) ∧ (decode cX11_hands 115 = .ok (.lload 7, 2)) ∧ (decode cX11_hands 117 = .ok (.ldiv, 1)) ∧ (decode cX11_hands 118 = .ok (.l2i, 1)) := by decide +kernel
theorem dX11_hands_99 : decode cX11_hands 99 = .ok (.iconst 2, 1) := gdX11_hands_99.1
theorem dX11_hands_100 : decode cX11_hands 100 = .ok (.iload_n 1, 1) := gdX11_hands_99.2.1
theorem dX11_hands_101 : decode cX11_hands 101 = .ok (.imul, 1) := gdX11_hands_99.2.2.1
theorem dX11_hands_102 : decode cX11_hands 102 = .ok (.iadd, 1) := gdX11_hands_99.2.2.2.1
theorem dX11_hands_103 : decode cX11_hands 103 = .ok (.iaload, 1) := gdX11_hands_99.2.2.2.2.1
theorem dX11_hands_104 : decode cX11_hands 104 = .ok (.i2l, 1) := gdX11_hands_99.2.2.2.2.2.1
theorem dX11_hands_105 : decode cX11_hands 105 = .ok (.lmul, 1) := gdX11_hands_99.2.2.2.2.2.2.1
theorem dX11_hands_106 : decode cX11_hands 106 = .ok (.lstore 7, 2) := gdX11_hands_99.2.2.2.2.2.2.2.1
theorem dX11_hands_108 : decode cX11_hands 108 = .ok (.lload 5, 2) := gdX11_hands_99.2.2.2.2.2.2.2.2.1
theorem dX11_hands_110 : decode cX11_hands 110 = .ok (.lload 7, 2) := gdX11_hands_99.2.2.2.2.2.2.2.2.2.1
theorem dX11_hands_112 : decode cX11_hands 112 = .ok (.ladd, 1) := gdX11_hands_99.2.2.2.2.2.2.2.2.2.2.1
theorem dX11_hands_113 : decode cX11_hands 113 = .ok (.lconst 1, 1) := gdX11_hands_99.2.2.2.2.2.2.2.2.2.2.2.1
theorem dX11_hands_114 : decode cX11_hands 114 = .ok (.lsub, 1) := gdX11_hands_99.2.2.2.2.2.2.2.2.2.2.2.2.1
theorem dX11_hands_115 : decode cX11_hands 115 = .ok (.lload 7, 2) := gdX11_hands_99.2.2.2.2.2.2.2.2.2.2.2.2.2.1
theorem dX11_hands_117 : decode cX11_hands 117 = .ok (.ldiv, 1) := gdX11_hands_99.2.2.2.2.2.2.2.2.2.2.2.2.2.2.1
theorem dX11_hands_118 : decode cX11_hands 118 = .ok (.l2i, 1) := gdX11_hands_99.2.2.2.2.2.2.2.2.2.2.2.2.2.2.2
theorem dX11_hands_119 : decode cX11_hands 119 = .ok (.ireturn, 1) := by decide +kernel
theorem gdX11_letter_0 : (decode cX11_letter 0 = .ok (.iload_n 1, 1)) ∧ (decode cX11_letter 1 = .ok (.iconst (-1), 1)) ∧ (decode cX11_letter 2 = .ok (.if_icmp .ne 12, 3)) ∧ (decode cX11_letter 5 = .ok (.aload_n 0, 1)) ∧ (decode cX11_letter 6 = .ok (.getfield 45, 3)) ∧ (decode cX11_letter 9 = .ok (.iconst 4, 1)) ∧ (decode cX11_letter 10 = .ok (.iconst 0, 1)) ∧ (decode cX11_letter 11 = .ok (.iastore, 1)) ∧ (decode cX11_letter 12 = .ok (.iconst 0, 1)) ∧ (decode cX11_letter 13 = .ok (.ireturn, 1)) ∧ (decode cX11_letter 14 = .ok (.aload_n 0, 1)) ∧ (decode cX11_letter 15 = .ok (.getfield 45, 3)) ∧ (decode cX11_letter 18 = .ok (.iconst 4, 1)) ∧ (decode cX11_letter 19 = .ok (.iaload, 1)) ∧ (decode cX11_letter 20 = .ok (.bipush 12, 2)) ∧ (decode cX11_letter 22 = .ok (.if_icmp .eq 44, 3)) := by decide +kernel
theorem dX11_letter_0 : decode cX11_letter 0 = .ok (.iload_n 1, 1) := gdX11_letter_0.1
theorem dX11_letter_1 : decode cX11_letter 1 = .ok (.iconst (-1), 1) := gdX11_letter_0.2.1
theorem dX11_letter_2 : decode cX11_letter 2 = .ok (.if_icmp .ne 12, 3) := gdX11_letter_0.2.2.1
theorem dX11_letter_5 : decode cX11_letter 5 = .ok (.aload_n 0, 1) := gdX11_letter_0.2.2.2.1
theorem dX11_letter_6 : decode cX11_letter 6 = .ok (.getfield 45, 3) := gdX11_letter_0.2.2.2.2.1
theorem dX11_letter_9 : decode cX11_letter 9 = .ok (.iconst 4, 1) := gdX11_letter_0.2.2.2.2.2.1
theorem dX11_letter_10 : decode cX11_letter 10 = .ok (.iconst 0, 1) := gdX11_letter_0.2.2.2.2.2.2.1
theorem dX11_letter_11 : decode cX11_letter 11 = .ok (.iastore, 1) := gdX11_letter_0.2.2.2.2.2.2.2.1
theorem dX11_letter_12 : decode cX11_letter 12 = .ok (.iconst 0, 1) := gdX11_letter_0.2.2.2.2.2.2.2.2.1
theorem dX11_letter_13 : decode cX11_letter 13 = .ok (.ireturn, 1) := gdX11_letter_0.2.2.2.2.2.2.2.2.2.1
theorem dX11_letter_14 : decode cX11_letter 14 = .ok (.aload_n 0, 1) := gdX11_letter_0.2.2.2.2.2.2.2.2.2.2.1
theorem dX11_letter_15 : decode cX11_letter 15 = .ok (.getfield 45, 3) := gdX11_letter_0.2.2.2.2.2.2.2.2.2.2.2.1
theorem dX11_letter_18 : decode cX11_letter 18 = .ok (.iconst 4, 1) := gdX11_letter_0.2.2.2.2.2.2.2.2.2.2.2.2.1
theorem dX11_letter_19 : decode cX11_letter 19 = .ok (.iaload, 1) := gdX11_letter_0.2.2.2.2.2.2.2.2.2.2.2.2.2.1
theorem dX11_letter_20 : decode cX11_letter 20 = .ok (.bipush 12, 2) := gdX11_letter_0.2.2.2.2.2.2.2.2.2.2.2.2.2.2.1
theorem dX11_letter_22 : decode cX11_letter 22 = .ok (.if_icmp .eq 44, 3) := gdX11_letter_0.2.2.2.2.2.2.2.2.2.2.2.2.2.2.2
theorem gdX11_letter_25 : (decode cX11_letter 25 = .ok (.aload_n 0, 1)) ∧ (decode cX11_letter 26 = .ok (.iload_n 1, 1)) ∧ (decode cX11_letter 27 = .ok (.invokevirtual 299, 3)) ∧ (decode cX11_letter 30 = .ok (.ifCond .eq 36, 3)) ∧ (decode cX11_letter 33 = .ok (.aload_n 0, 1)) ∧ (decode cX11_letter 34 = .ok (.iload_n 2, 1)) ∧ (decode cX11_letter 35 = .ok (.invokevirtual 299, 3)) ∧ (decode cX11_letter 38 = .ok (.ifCond .eq 28, 3)) ∧ (decode cX11_letter 41 = .ok (.iload_n 3, 1)) ∧ (decode cX11_letter 42 = .ok (.i2l, 1)) ∧ (decode cX11_letter 43 = .ok (.lconst 0, 1)) ∧ (decode cX11_letter 44 = .ok (.ldc2_w 365, 3)) ∧ (decode cX11_letter 47 = .ok (.invokestatic 131, 3)) ∧ (decode cX11_letter 50 = .ok (.ifCond .eq 16, 3)) ∧ (decode cX11_letter 53 = .ok (.aload_n 0, 1)) ∧ (decode cX11_letter 54 = .ok (.iload_n 1, 1)) := by decide +kernel
theorem dX11_letter_25 : decode cX11_letter 25 = .ok (.aload_n 0, 1) := gdX11_letter_25.1
theorem dX11_letter_26 : decode cX11_letter 26 = .ok (.iload_n 1, 1) := gdX11_letter_25.2.1
theorem dX11_letter_27 : decode cX11_letter 27 = .ok (.invokevirtual 299, 3) := gdX11_letter_25.2.2.1
theorem dX11_letter_30 : decode cX11_letter 30 = .ok (.ifCond .eq 36, 3) := gdX11_letter_25.2.2.2.1
theorem dX11_letter_33 : decode cX11_letter 33 = .ok (.aload_n 0, 1) := gdX11_letter_25.2.2.2.2.1
theorem dX11_letter_34 : decode cX11_letter 34 = .ok (.iload_n 2, 1) := gdX11_letter_25.2.2.2.2.2.1
theorem dX11_letter_35 : decode cX11_letter 35 = .ok (.invokevirtual 299, 3) := gdX11_letter_25.2.2.2.2.2.2.1
theorem dX11_letter_38 : decode cX11_letter 38 = .ok (.ifCond .eq 28, 3) := gdX11_letter_25.2.2.2.2.2.2.2.1
theorem dX11_letter_41 : decode cX11_letter 41 = .ok (.iload_n 3, 1) := gdX11_letter_25.2.2.2.2.2.2.2.2.1
theorem dX11_letter_42 : decode cX11_letter 42 = .ok (.i2l, 1) := gdX11_letter_25.2.2.2.2.2.2.2.2.2.1
theorem dX11_letter_43 : decode cX11_letter 43 = .ok (.lconst 0, 1) := gdX11_letter_25.2.2.2.2.2.2.2.2.2.2.1
theorem dX11_letter_44 : decode cX11_letter 44 = .ok (.ldc2_w 365, 3) := gdX11_letter_25.2.2.2.2.2.2.2.2.2.2.2.1
theorem dX11_letter_47 : decode cX11_letter 47 = .ok (.invokestatic 131, 3) := gdX11_letter_25.2.2.2.2.2.2.2.2.2.2.2.2.1
theorem dX11_letter_50 : decode cX11_letter 50 = .ok (.ifCond .eq 16, 3) := gdX11_letter_25.2.2.2.2.2.2.2.2.2.2.2.2.2.1
theorem dX11_letter_53 : decode cX11_letter 53 = .ok (.aload_n 0, 1) := gdX11_letter_25.2.2.2.2.2.2.2.2.2.2.2.2.2.2.1
theorem dX11_letter_54 : decode cX11_letter 54 = .ok (.iload_n 1, 1) := gdX11_letter_25.2.2.2.2.2.2.2.2.2.2.2.2.2.2.2
theorem gdX11_letter_55 : (decode cX11_letter 55 = .ok (.iload_n 2, 1)) ∧ (decode cX11_letter 56 = .ok (.invokevirtual 289, 3)) ∧ (decode cX11_letter 59 = .ok (.ldc2_w 287, 3)) ∧ (decode cX11_letter 62 = .ok (.lcmp, 1)) ∧ (decode cX11_letter 63 = .ok (.ifCond .lt 6, 3)) ∧ (decode cX11_letter 66 = .ok (.bipush (-2), 2)) ∧ (decode cX11_letter 68 = .ok (.ireturn, 1)) ∧ (decode cX11_letter 69 = .ok (.bipush 122, 2)) ∧ (decode cX11_letter 71 = .ok (.iconst 3, 1)) ∧ (decode cX11_letter 72 = .ok (.aload_n 0, 1)) ∧ (decode cX11_letter 73 = .ok (.getfield 45, 3)) ∧ (decode cX11_letter 76 = .ok (.iconst 4, 1)) ∧ (decode cX11_letter 77 = .ok (.iaload, 1)) ∧ (decode cX11_letter 78 = .ok (.imul, 1)) ∧ (decode cX11_letter 79 = .ok (.iadd, 1)) ∧ (decode cX11_letter 80 = .ok (.istore 4, 2)) := by decide +kernel
theorem dX11_letter_55 : decode cX11_letter 55 = .ok (.iload_n 2, 1) := gdX11_letter_55.1
theorem dX11_letter_56 : decode cX11_letter 56 = .ok (.invokevirtual 289, 3) := gdX11_letter_55.2.1
theorem dX11_letter_59 : decode cX11_letter 59 = .ok (.ldc2_w 287, 3) := gdX11_letter_55.2.2.1
theorem dX11_letter_62 : decode cX11_letter 62 = .ok (.lcmp, 1) := gdX11_letter_55.2.2.2.1
theorem dX11_letter_63 : decode cX11_letter 63 = .ok (.ifCond .lt 6, 3) := gdX11_letter_55.2.2.2.2.1
theorem dX11_letter_66 : decode cX11_letter 66 = .ok (.bipush (-2), 2) := gdX11_letter_55.2.2.2.2.2.1
theorem dX11_letter_68 : decode cX11_letter 68 = .ok (.ireturn, 1) := gdX11_letter_55.2.2.2.2.2.2.1
theorem dX11_letter_69 : decode cX11_letter 69 = .ok (.bipush 122, 2) := gdX11_letter_55.2.2.2.2.2.2.2.1
theorem dX11_letter_71 : decode cX11_letter 71 = .ok (.iconst 3, 1) := gdX11_letter_55.2.2.2.2.2.2.2.2.1
theorem dX11_letter_72 : decode cX11_letter 72 = .ok (.aload_n 0, 1) := gdX11_letter_55.2.2.2.2.2.2.2.2.2.1
theorem dX11_letter_73 : decode cX11_letter 73 = .ok (.getfield 45, 3) := gdX11_letter_55.2.2.2.2.2.2.2.2.2.2.1
theorem dX11_letter_76 : decode cX11_letter 76 = .ok (.iconst 4, 1) := gdX11_letter_55.2.2.2.2.2.2.2.2.2.2.2.1
theorem dX11_letter_77 : decode cX11_letter 77 = .ok (.iaload, 1) := gdX11_letter_55.2.2.2.2.2.2.2.2.2.2.2.2.1
theorem dX11_letter_78 : decode cX11_letter 78 = .ok (.imul, 1) := gdX11_letter_55.2.2.2.2.2.2.2.2.2.2.2.2.2.1
theorem dX11_letter_79 : decode cX11_letter 79 = .ok (.iadd, 1) := gdX11_letter_55.2.2.2.2.2.2.2.2.2.2.2.2.2.2.1
theorem dX11_letter_80 : decode cX11_letter 80 = .ok (.istore 4, 2) := gdX11_letter_55.2.2.2.2.2.2.2.2.2.2.2.2.2.2.2
theorem gdX11_letter_82 : (decode cX11_letter 82 = .ok (.aload_n 0, 1)) ∧ (decode cX11_letter 83 = .ok (.getfield 45, 3)) ∧ (decode cX11_letter 86 = .ok (.iload 4, 2)) ∧ (decode cX11_letter 88 = .ok (.iload_n 1, 1)) ∧ (decode cX11_letter 89 = .ok (.iastore, 1)) ∧ (decode cX11_letter 90 = .ok (.aload_n 0, 1)) ∧ (decode cX11_letter 91 = .ok (.getfield 45, 3)) ∧ (decode cX11_letter 94 = .ok (.iload 4, 2)) ∧ (decode cX11_letter 96 = .ok (.iconst 1, 1)) ∧ (decode cX11_letter 97 = .ok (.iadd, 1)) ∧ (decode cX11_letter 98 = .ok (.iload_n 2, 1)) ∧ (decode cX11_letter 99 = .ok (.iastore, 1)) ∧ (decode cX11_letter 100 = .ok (.aload_n 0, 1)) ∧ (decode cX11_letter 101 = .ok (.getfield 45, 3)) ∧ (decode cX11_letter 104 = .ok (.iload 4, 2)) ∧ (decode cX11_letter 106 = .ok (.iconst 2, 1)) := by decide +kernel
theorem dX11_letter_82 : decode cX11_letter 82 = .ok (.aload_n 0, 1) := gdX11_letter_82.1
theorem dX11_letter_83 : decode cX11_letter 83 = .ok (.getfield 45, 3) := gdX11_letter_82.2.1
theorem dX11_letter_86 : decode cX11_letter 86 = .ok (.iload 4, 2) := gdX11_letter_82.2.2.1
theorem dX11_letter_88 : decode cX11_letter 88 = .ok (.iload_n 1, 1) := gdX11_letter_82.2.2.2.1
theorem dX11_letter_89 : decode cX11_letter 89 = .ok (.iastore, 1) := gdX11_letter_82.2.2.2.2.1
theorem dX11_letter_90 : decode cX11_letter 90 = .ok (.aload_n 0, 1) := gdX11_letter_82.2.2.2.2.2.1
theorem dX11_letter_91 : decode cX11_letter 91 = .ok (.getfield 45, 3) := gdX11_letter_82.2.2.2.2.2.2.1
theorem dX11_letter_94 : decode cX11_letter 94 = .ok (.iload 4, 2) := gdX11_letter_82.2.2.2.2.2.2.2.1
theorem dX11_letter_96 : decode cX11_letter 96 = .ok (.iconst 1, 1) := gdX11_letter_82.2.2.2.2.2.2.2.2.1
theorem dX11_letter_97 : decode cX11_letter 97 = .ok (.iadd, 1) := gdX11_letter_82.2.2.2.2.2.2.2.2.2.1
theorem dX11_letter_98 : decode cX11_letter 98 = .ok (.iload_n 2, 1) := gdX11_letter_82.2.2.2.2.2.2.2.2.2.2.1
theorem dX11_letter_99 : decode cX11_letter 99 = .ok (.iastore, 1) := gdX11_letter_82.2.2.2.2.2.2.2.2.2.2.2.1
theorem dX11_letter_100 : decode cX11_letter 100 = .ok (.aload_n 0, 1) := gdX11_letter_82.2.2.2.2.2.2.2.2.2.2.2.2.1
theorem dX11_letter_101 : decode cX11_letter 101 = .ok (.getfield 45, 3) := gdX11_letter_82.2.2.2.2.2.2.2.2.2.2.2.2.2.1
theorem dX11_letter_104 : decode cX11_letter 104 = .ok (.iload 4, 2) := gdX11_letter_82.2.2.2.2.2.2.2.2.2.2.2.2.2.2.1
theorem dX11_letter_106 : decode cX11_letter 106 = .ok (.iconst 2, 1) := gdX11_letter_82.2.2.2.2.2.2.2.2.2.2.2.2.2.2.2
theorem gdX11_letter_107 : (decode cX11_letter 107 = .ok (.iadd, 1)) ∧ (decode cX11_letter 108 = .ok (.iload_n 3, 1)) ∧ (decode cX11_letter 109 = .ok (.iastore, 1)) ∧ (decode cX11_letter 110 = .ok (.aload_n 0, 1)) ∧ (decode cX11_letter 111 = .ok (.getfield 45, 3)) ∧ (decode cX11_letter 114 = .ok (.iconst 4, 1)) ∧ (decode cX11_letter 115 = .ok (.dup2, 1)) ∧ (decode cX11_letter 116 = .ok (.iaload, 1)) ∧ (decode cX11_letter 117 = .ok (.iconst 1, 1)) ∧ (decode cX11_letter 118 = .ok (.iadd, 1)) ∧ (decode cX11_letter 119 = .ok (.iastore, 1)) ∧ (decode cX11_letter 120 = .ok (.aload_n 0, 1)) ∧ (decode cX11_letter 121 = .ok (.getfield 45, 3)) ∧ (decode cX11_letter 124 = .ok (.iconst 4, 1)) ∧ (decode cX11_letter 125 = .ok (.iaload, 1)) ∧ (decode cX11_letter 126 = .ok (.ireturn, 1)) := by decide +kernel
theorem dX11_letter_107 : decode cX11_letter 107 = .ok (.iadd, 1) := gdX11_letter_107.1
theorem dX11_letter_108 : decode cX11_letter 108 = .ok (.iload_n 3, 1) := gdX11_letter_107.2.1
theorem dX11_letter_109 : decode cX11_letter 109 = .ok (.iastore, 1) := gdX11_letter_107.2.2.1
theorem dX11_letter_110 : decode cX11_letter 110 = .ok (.aload_n 0, 1) := gdX11_letter_107.2.2.2.1
theorem dX11_letter_111 : decode cX11_letter 111 = .ok (.getfield 45, 3) := gdX11_letter_107.2.2.2.2.1
theorem dX11_letter_114 : decode cX11_letter 114 = .ok (.iconst 4, 1) := gdX11_letter_107.2.2.2.2.2.1
theorem dX11_letter_115 : decode cX11_letter 115 = .ok (.dup2, 1) := gdX11_letter_107.2.2.2.2.2.2.1
theorem dX11_letter_116 : decode cX11_letter 116 = .ok (.iaload, 1) := gdX11_letter_107.2.2.2.2.2.2.2.1
theorem dX11_letter_117 : decode cX11_letter 117 = .ok (.iconst 1, 1) := gdX11_letter_107.2.2.2.2.2.2.2.2.1
theorem dX11_letter_118 : decode cX11_letter 118 = .ok (.iadd, 1) := gdX11_letter_107.2.2.2.2.2.2.2.2.2.1
theorem dX11_letter_119 : decode cX11_letter 119 = .ok (.iastore, 1) := gdX11_letter_107.2.2.2.2.2.2.2.2.2.2.1
theorem dX11_letter_120 : decode cX11_letter 120 = .ok (.aload_n 0, 1) := gdX11_letter_107.2.2.2.2.2.2.2.2.2.2.2.1
theorem dX11_letter_121 : decode cX11_letter 121 = .ok (.getfield 45, 3) := gdX11_letter_107.2.2.2.2.2.2.2.2.2.2.2.2.1
theorem dX11_letter_124 : decode cX11_letter 124 = .ok (.iconst 4, 1) := gdX11_letter_107.2.2.2.2.2.2.2.2.2.2.2.2.2.1
theorem dX11_letter_125 : decode cX11_letter 125 = .ok (.iaload, 1) := gdX11_letter_107.2.2.2.2.2.2.2.2.2.2.2.2.2.2.1
theorem dX11_letter_126 : decode cX11_letter 126 = .ok (.ireturn, 1) := gdX11_letter_107.2.2.2.2.2.2.2.2.2.2.2.2.2.2.2
theorem gdX11_letterOf_0 : (decode cX11_letterOf 0 = .ok (.aload_n 0, 1)) ∧ (decode cX11_letterOf 1 = .ok (.getfield 45, 3)) ∧ (decode cX11_letterOf 4 = .ok (.bipush 122, 2)) ∧ (decode cX11_letterOf 6 = .ok (.iconst 3, 1)) ∧ (decode cX11_letterOf 7 = .ok (.iload_n 1, 1)) ∧ (decode cX11_letterOf 8 = .ok (.imul, 1)) ∧ (decode cX11_letterOf 9 = .ok (.iadd, 1)) ∧ (decode cX11_letterOf 10 = .ok (.iload_n 2, 1)) ∧ (decode cX11_letterOf 11 = .ok (.iadd, 1)) ∧ (decode cX11_letterOf 12 = .ok (.iaload, 1)) ∧ (decode cX11_letterOf 13 = .ok (.ireturn, 1)) := by decide +kernel
theorem dX11_letterOf_0 : decode cX11_letterOf 0 = .ok (.aload_n 0, 1) := gdX11_letterOf_0.1
theorem dX11_letterOf_1 : decode cX11_letterOf 1 = .ok (.getfield 45, 3) := gdX11_letterOf_0.2.1
theorem dX11_letterOf_4 : decode cX11_letterOf 4 = .ok (.bipush 122, 2) := gdX11_letterOf_0.2.2.1
theorem dX11_letterOf_6 : decode cX11_letterOf 6 = .ok (.iconst 3, 1) := gdX11_letterOf_0.2.2.2.1
theorem dX11_letterOf_7 : decode cX11_letterOf 7 = .ok (.iload_n 1, 1) := gdX11_letterOf_0.2.2.2.2.1
theorem dX11_letterOf_8 : decode cX11_letterOf 8 = .ok (.imul, 1) := gdX11_letterOf_0.2.2.2.2.2.1
theorem dX11_letterOf_9 : decode cX11_letterOf 9 = .ok (.iadd, 1) := gdX11_letterOf_0.2.2.2.2.2.2.1
theorem dX11_letterOf_10 : decode cX11_letterOf 10 = .ok (.iload_n 2, 1) := gdX11_letterOf_0.2.2.2.2.2.2.2.1
theorem dX11_letterOf_11 : decode cX11_letterOf 11 = .ok (.iadd, 1) := gdX11_letterOf_0.2.2.2.2.2.2.2.2.1
theorem dX11_letterOf_12 : decode cX11_letterOf 12 = .ok (.iaload, 1) := gdX11_letterOf_0.2.2.2.2.2.2.2.2.2.1
theorem dX11_letterOf_13 : decode cX11_letterOf 13 = .ok (.ireturn, 1) := gdX11_letterOf_0.2.2.2.2.2.2.2.2.2.2
theorem gdX11_comesAt_0 : (decode cX11_comesAt 0 = .ok (.aload_n 0, 1)) ∧ (decode cX11_comesAt 1 = .ok (.iload_n 1, 1)) ∧ (decode cX11_comesAt 2 = .ok (.iconst 2, 1)) ∧ (decode cX11_comesAt 3 = .ok (.invokevirtual 409, 3)) ∧ (decode cX11_comesAt 6 = .ok (.aload_n 0, 1)) ∧ (decode cX11_comesAt 7 = .ok (.aload_n 0, 1)) ∧ (decode cX11_comesAt 8 = .ok (.iload_n 1, 1)) ∧ (decode cX11_comesAt 9 = .ok (.iconst 0, 1)) ∧ (decode cX11_comesAt 10 = .ok (.invokevirtual 409, 3)) ∧ (decode cX11_comesAt 13 = .ok (.aload_n 0, 1)) ∧ (decode cX11_comesAt 14 = .ok (.iload_n 1, 1)) ∧ (decode cX11_comesAt 15 = .ok (.iconst 1, 1)) ∧ (decode cX11_comesAt 16 = .ok (.invokevirtual 409, 3)) ∧ (decode cX11_comesAt 19 = .ok (.invokevirtual 289, 3)) ∧ (decode cX11_comesAt 22 = .ok (.l2i, 1)) ∧ (decode cX11_comesAt 23 = .ok (.iadd, 1)) := by decide +kernel
theorem dX11_comesAt_0 : decode cX11_comesAt 0 = .ok (.aload_n 0, 1) := gdX11_comesAt_0.1
theorem dX11_comesAt_1 : decode cX11_comesAt 1 = .ok (.iload_n 1, 1) := gdX11_comesAt_0.2.1
theorem dX11_comesAt_2 : decode cX11_comesAt 2 = .ok (.iconst 2, 1) := gdX11_comesAt_0.2.2.1
theorem dX11_comesAt_3 : decode cX11_comesAt 3 = .ok (.invokevirtual 409, 3) := gdX11_comesAt_0.2.2.2.1
theorem dX11_comesAt_6 : decode cX11_comesAt 6 = .ok (.aload_n 0, 1) := gdX11_comesAt_0.2.2.2.2.1
theorem dX11_comesAt_7 : decode cX11_comesAt 7 = .ok (.aload_n 0, 1) := gdX11_comesAt_0.2.2.2.2.2.1
theorem dX11_comesAt_8 : decode cX11_comesAt 8 = .ok (.iload_n 1, 1) := gdX11_comesAt_0.2.2.2.2.2.2.1
theorem dX11_comesAt_9 : decode cX11_comesAt 9 = .ok (.iconst 0, 1) := gdX11_comesAt_0.2.2.2.2.2.2.2.1
theorem dX11_comesAt_10 : decode cX11_comesAt 10 = .ok (.invokevirtual 409, 3) := gdX11_comesAt_0.2.2.2.2.2.2.2.2.1
theorem dX11_comesAt_13 : decode cX11_comesAt 13 = .ok (.aload_n 0, 1) := gdX11_comesAt_0.2.2.2.2.2.2.2.2.2.1
theorem dX11_comesAt_14 : decode cX11_comesAt 14 = .ok (.iload_n 1, 1) := gdX11_comesAt_0.2.2.2.2.2.2.2.2.2.2.1
theorem dX11_comesAt_15 : decode cX11_comesAt 15 = .ok (.iconst 1, 1) := gdX11_comesAt_0.2.2.2.2.2.2.2.2.2.2.2.1
theorem dX11_comesAt_16 : decode cX11_comesAt 16 = .ok (.invokevirtual 409, 3) := gdX11_comesAt_0.2.2.2.2.2.2.2.2.2.2.2.2.1
theorem dX11_comesAt_19 : decode cX11_comesAt 19 = .ok (.invokevirtual 289, 3) := gdX11_comesAt_0.2.2.2.2.2.2.2.2.2.2.2.2.2.1
theorem dX11_comesAt_22 : decode cX11_comesAt 22 = .ok (.l2i, 1) := gdX11_comesAt_0.2.2.2.2.2.2.2.2.2.2.2.2.2.2.1
theorem dX11_comesAt_23 : decode cX11_comesAt 23 = .ok (.iadd, 1) := gdX11_comesAt_0.2.2.2.2.2.2.2.2.2.2.2.2.2.2.2
theorem dX11_comesAt_24 : decode cX11_comesAt 24 = .ok (.ireturn, 1) := by decide +kernel
theorem gdX11_isEarly_0 : (decode cX11_isEarly 0 = .ok (.aload_n 0, 1)) ∧ (decode cX11_isEarly 1 = .ok (.iload_n 1, 1)) ∧ (decode cX11_isEarly 2 = .ok (.invokevirtual 412, 3)) ∧ (decode cX11_isEarly 5 = .ok (.i2l, 1)) ∧ (decode cX11_isEarly 6 = .ok (.aload_n 0, 1)) ∧ (decode cX11_isEarly 7 = .ok (.aload_n 0, 1)) ∧ (decode cX11_isEarly 8 = .ok (.iload_n 1, 1)) ∧ (decode cX11_isEarly 9 = .ok (.iconst 1, 1)) ∧ (decode cX11_isEarly 10 = .ok (.invokevirtual 409, 3)) ∧ (decode cX11_isEarly 13 = .ok (.invokevirtual 333, 3)) ∧ (decode cX11_isEarly 16 = .ok (.lmul, 1)) ∧ (decode cX11_isEarly 17 = .ok (.aload_n 0, 1)) ∧ (decode cX11_isEarly 18 = .ok (.iload_n 1, 1)) ∧ (decode cX11_isEarly 19 = .ok (.iconst 2, 1)) ∧ (decode cX11_isEarly 20 = .ok (.invokevirtual 409, 3)) ∧ (decode cX11_isEarly 23 = .ok (.i2l, 1)) := by decide +kernel
theorem dX11_isEarly_0 : decode cX11_isEarly 0 = .ok (.aload_n 0, 1) := gdX11_isEarly_0.1
theorem dX11_isEarly_1 : decode cX11_isEarly 1 = .ok (.iload_n 1, 1) := gdX11_isEarly_0.2.1
theorem dX11_isEarly_2 : decode cX11_isEarly 2 = .ok (.invokevirtual 412, 3) := gdX11_isEarly_0.2.2.1
theorem dX11_isEarly_5 : decode cX11_isEarly 5 = .ok (.i2l, 1) := gdX11_isEarly_0.2.2.2.1
theorem dX11_isEarly_6 : decode cX11_isEarly 6 = .ok (.aload_n 0, 1) := gdX11_isEarly_0.2.2.2.2.1
theorem dX11_isEarly_7 : decode cX11_isEarly 7 = .ok (.aload_n 0, 1) := gdX11_isEarly_0.2.2.2.2.2.1
theorem dX11_isEarly_8 : decode cX11_isEarly 8 = .ok (.iload_n 1, 1) := gdX11_isEarly_0.2.2.2.2.2.2.1
theorem dX11_isEarly_9 : decode cX11_isEarly 9 = .ok (.iconst 1, 1) := gdX11_isEarly_0.2.2.2.2.2.2.2.1
theorem dX11_isEarly_10 : decode cX11_isEarly 10 = .ok (.invokevirtual 409, 3) := gdX11_isEarly_0.2.2.2.2.2.2.2.2.1
theorem dX11_isEarly_13 : decode cX11_isEarly 13 = .ok (.invokevirtual 333, 3) := gdX11_isEarly_0.2.2.2.2.2.2.2.2.2.1
theorem dX11_isEarly_16 : decode cX11_isEarly 16 = .ok (.lmul, 1) := gdX11_isEarly_0.2.2.2.2.2.2.2.2.2.2.1
theorem dX11_isEarly_17 : decode cX11_isEarly 17 = .ok (.aload_n 0, 1) := gdX11_isEarly_0.2.2.2.2.2.2.2.2.2.2.2.1
theorem dX11_isEarly_18 : decode cX11_isEarly 18 = .ok (.iload_n 1, 1) := gdX11_isEarly_0.2.2.2.2.2.2.2.2.2.2.2.2.1
theorem dX11_isEarly_19 : decode cX11_isEarly 19 = .ok (.iconst 2, 1) := gdX11_isEarly_0.2.2.2.2.2.2.2.2.2.2.2.2.2.1
theorem dX11_isEarly_20 : decode cX11_isEarly 20 = .ok (.invokevirtual 409, 3) := gdX11_isEarly_0.2.2.2.2.2.2.2.2.2.2.2.2.2.2.1
theorem dX11_isEarly_23 : decode cX11_isEarly 23 = .ok (.i2l, 1) := gdX11_isEarly_0.2.2.2.2.2.2.2.2.2.2.2.2.2.2.2
theorem gdX11_isEarly_24 : (decode cX11_isEarly 24 = .ok (.aload_n 0, 1)) ∧ (decode cX11_isEarly 25 = .ok (.aload_n 0, 1)) ∧ (decode cX11_isEarly 26 = .ok (.iload_n 1, 1)) ∧ (decode cX11_isEarly 27 = .ok (.iconst 0, 1)) ∧ (decode cX11_isEarly 28 = .ok (.invokevirtual 409, 3)) ∧ (decode cX11_isEarly 31 = .ok (.invokevirtual 333, 3)) ∧ (decode cX11_isEarly 34 = .ok (.lmul, 1)) ∧ (decode cX11_isEarly 35 = .ok (.lcmp, 1)) ∧ (decode cX11_isEarly 36 = .ok (.ifCond .ge 7, 3)) ∧ (decode cX11_isEarly 39 = .ok (.iconst 1, 1)) ∧ (decode cX11_isEarly 40 = .ok (.goto 4, 3)) ∧ (decode cX11_isEarly 43 = .ok (.iconst 0, 1)) ∧ (decode cX11_isEarly 44 = .ok (.ireturn, 1)) := by decide +kernel
theorem dX11_isEarly_24 : decode cX11_isEarly 24 = .ok (.aload_n 0, 1) := gdX11_isEarly_24.1
theorem dX11_isEarly_25 : decode cX11_isEarly 25 = .ok (.aload_n 0, 1) := gdX11_isEarly_24.2.1
theorem dX11_isEarly_26 : decode cX11_isEarly 26 = .ok (.iload_n 1, 1) := gdX11_isEarly_24.2.2.1
theorem dX11_isEarly_27 : decode cX11_isEarly 27 = .ok (.iconst 0, 1) := gdX11_isEarly_24.2.2.2.1
theorem dX11_isEarly_28 : decode cX11_isEarly 28 = .ok (.invokevirtual 409, 3) := gdX11_isEarly_24.2.2.2.2.1
theorem dX11_isEarly_31 : decode cX11_isEarly 31 = .ok (.invokevirtual 333, 3) := gdX11_isEarly_24.2.2.2.2.2.1
theorem dX11_isEarly_34 : decode cX11_isEarly 34 = .ok (.lmul, 1) := gdX11_isEarly_24.2.2.2.2.2.2.1
theorem dX11_isEarly_35 : decode cX11_isEarly 35 = .ok (.lcmp, 1) := gdX11_isEarly_24.2.2.2.2.2.2.2.1
theorem dX11_isEarly_36 : decode cX11_isEarly 36 = .ok (.ifCond .ge 7, 3) := gdX11_isEarly_24.2.2.2.2.2.2.2.2.1
theorem dX11_isEarly_39 : decode cX11_isEarly 39 = .ok (.iconst 1, 1) := gdX11_isEarly_24.2.2.2.2.2.2.2.2.2.1
theorem dX11_isEarly_40 : decode cX11_isEarly 40 = .ok (.goto 4, 3) := gdX11_isEarly_24.2.2.2.2.2.2.2.2.2.2.1
theorem dX11_isEarly_43 : decode cX11_isEarly 43 = .ok (.iconst 0, 1) := gdX11_isEarly_24.2.2.2.2.2.2.2.2.2.2.2.1
theorem dX11_isEarly_44 : decode cX11_isEarly 44 = .ok (.ireturn, 1) := gdX11_isEarly_24.2.2.2.2.2.2.2.2.2.2.2.2
theorem gdX11_letters_0 : (decode cX11_letters 0 = .ok (.iload_n 1, 1)) ∧ (decode cX11_letters 1 = .ok (.i2l, 1)) ∧ (decode cX11_letters 2 = .ok (.lconst 0, 1)) ∧ (decode cX11_letters 3 = .ok (.aload_n 0, 1)) ∧ (decode cX11_letters 4 = .ok (.getfield 45, 3)) ∧ (decode cX11_letters 7 = .ok (.iconst 4, 1)) ∧ (decode cX11_letters 8 = .ok (.iaload, 1)) ∧ (decode cX11_letters 9 = .ok (.iconst 1, 1)) ∧ (decode cX11_letters 10 = .ok (.isub, 1)) ∧ (decode cX11_letters 11 = .ok (.i2l, 1)) ∧ (decode cX11_letters 12 = .ok (.invokestatic 131, 3)) ∧ (decode cX11_letters 15 = .ok (.ifCond .eq 15, 3)) ∧ (decode cX11_letters 18 = .ok (.iload_n 2, 1)) ∧ (decode cX11_letters 19 = .ok (.i2l, 1)) ∧ (decode cX11_letters 20 = .ok (.lconst 0, 1)) ∧ (decode cX11_letters 21 = .ok (.ldc2_w 314, 3)) := by decide +kernel
theorem dX11_letters_0 : decode cX11_letters 0 = .ok (.iload_n 1, 1) := gdX11_letters_0.1
theorem dX11_letters_1 : decode cX11_letters 1 = .ok (.i2l, 1) := gdX11_letters_0.2.1
theorem dX11_letters_2 : decode cX11_letters 2 = .ok (.lconst 0, 1) := gdX11_letters_0.2.2.1
theorem dX11_letters_3 : decode cX11_letters 3 = .ok (.aload_n 0, 1) := gdX11_letters_0.2.2.2.1
theorem dX11_letters_4 : decode cX11_letters 4 = .ok (.getfield 45, 3) := gdX11_letters_0.2.2.2.2.1
theorem dX11_letters_7 : decode cX11_letters 7 = .ok (.iconst 4, 1) := gdX11_letters_0.2.2.2.2.2.1
theorem dX11_letters_8 : decode cX11_letters 8 = .ok (.iaload, 1) := gdX11_letters_0.2.2.2.2.2.2.1
theorem dX11_letters_9 : decode cX11_letters 9 = .ok (.iconst 1, 1) := gdX11_letters_0.2.2.2.2.2.2.2.1
theorem dX11_letters_10 : decode cX11_letters 10 = .ok (.isub, 1) := gdX11_letters_0.2.2.2.2.2.2.2.2.1
theorem dX11_letters_11 : decode cX11_letters 11 = .ok (.i2l, 1) := gdX11_letters_0.2.2.2.2.2.2.2.2.2.1
theorem dX11_letters_12 : decode cX11_letters 12 = .ok (.invokestatic 131, 3) := gdX11_letters_0.2.2.2.2.2.2.2.2.2.2.1
theorem dX11_letters_15 : decode cX11_letters 15 = .ok (.ifCond .eq 15, 3) := gdX11_letters_0.2.2.2.2.2.2.2.2.2.2.2.1
theorem dX11_letters_18 : decode cX11_letters 18 = .ok (.iload_n 2, 1) := gdX11_letters_0.2.2.2.2.2.2.2.2.2.2.2.2.1
theorem dX11_letters_19 : decode cX11_letters 19 = .ok (.i2l, 1) := gdX11_letters_0.2.2.2.2.2.2.2.2.2.2.2.2.2.1
theorem dX11_letters_20 : decode cX11_letters 20 = .ok (.lconst 0, 1) := gdX11_letters_0.2.2.2.2.2.2.2.2.2.2.2.2.2.2.1
theorem dX11_letters_21 : decode cX11_letters 21 = .ok (.ldc2_w 314, 3) := gdX11_letters_0.2.2.2.2.2.2.2.2.2.2.2.2.2.2.2
theorem gdX11_letters_24 : (decode cX11_letters 24 = .ok (.invokestatic 131, 3)) ∧ (decode cX11_letters 27 = .ok (.ifCond .ne 5, 3)) ∧ (decode cX11_letters 30 = .ok (.iconst (-1), 1)) ∧ (decode cX11_letters 31 = .ok (.ireturn, 1)) ∧ (decode cX11_letters 32 = .ok (.iload_n 2, 1)) ∧ (decode cX11_letters 33 = .ok (.iconst 3, 1)) ∧ (decode cX11_letters 34 = .ok (.if_icmp .ge 12, 3)) ∧ (decode cX11_letters 37 = .ok (.aload_n 0, 1)) ∧ (decode cX11_letters 38 = .ok (.iload_n 1, 1)) ∧ (decode cX11_letters 39 = .ok (.iload_n 2, 1)) ∧ (decode cX11_letters 40 = .ok (.invokevirtual 409, 3)) ∧ (decode cX11_letters 43 = .ok (.goto 29, 3)) ∧ (decode cX11_letters 46 = .ok (.iload_n 2, 1)) ∧ (decode cX11_letters 47 = .ok (.iconst 3, 1)) ∧ (decode cX11_letters 48 = .ok (.if_icmp .ne 11, 3)) ∧ (decode cX11_letters 51 = .ok (.aload_n 0, 1)) := by decide +kernel
theorem dX11_letters_24 : decode cX11_letters 24 = .ok (.invokestatic 131, 3) := gdX11_letters_24.1
theorem dX11_letters_27 : decode cX11_letters 27 = .ok (.ifCond .ne 5, 3) := gdX11_letters_24.2.1
theorem dX11_letters_30 : decode cX11_letters 30 = .ok (.iconst (-1), 1) := gdX11_letters_24.2.2.1
theorem dX11_letters_31 : decode cX11_letters 31 = .ok (.ireturn, 1) := gdX11_letters_24.2.2.2.1
theorem dX11_letters_32 : decode cX11_letters 32 = .ok (.iload_n 2, 1) := gdX11_letters_24.2.2.2.2.1
theorem dX11_letters_33 : decode cX11_letters 33 = .ok (.iconst 3, 1) := gdX11_letters_24.2.2.2.2.2.1
theorem dX11_letters_34 : decode cX11_letters 34 = .ok (.if_icmp .ge 12, 3) := gdX11_letters_24.2.2.2.2.2.2.1
theorem dX11_letters_37 : decode cX11_letters 37 = .ok (.aload_n 0, 1) := gdX11_letters_24.2.2.2.2.2.2.2.1
theorem dX11_letters_38 : decode cX11_letters 38 = .ok (.iload_n 1, 1) := gdX11_letters_24.2.2.2.2.2.2.2.2.1
theorem dX11_letters_39 : decode cX11_letters 39 = .ok (.iload_n 2, 1) := gdX11_letters_24.2.2.2.2.2.2.2.2.2.1
theorem dX11_letters_40 : decode cX11_letters 40 = .ok (.invokevirtual 409, 3) := gdX11_letters_24.2.2.2.2.2.2.2.2.2.2.1
theorem dX11_letters_43 : decode cX11_letters 43 = .ok (.goto 29, 3) := gdX11_letters_24.2.2.2.2.2.2.2.2.2.2.2.1
theorem dX11_letters_46 : decode cX11_letters 46 = .ok (.iload_n 2, 1) := gdX11_letters_24.2.2.2.2.2.2.2.2.2.2.2.2.1
theorem dX11_letters_47 : decode cX11_letters 47 = .ok (.iconst 3, 1) := gdX11_letters_24.2.2.2.2.2.2.2.2.2.2.2.2.2.1
theorem dX11_letters_48 : decode cX11_letters 48 = .ok (.if_icmp .ne 11, 3) := gdX11_letters_24.2.2.2.2.2.2.2.2.2.2.2.2.2.2.1
theorem dX11_letters_51 : decode cX11_letters 51 = .ok (.aload_n 0, 1) := gdX11_letters_24.2.2.2.2.2.2.2.2.2.2.2.2.2.2.2
theorem gdX11_letters_52 : (decode cX11_letters 52 = .ok (.iload_n 1, 1)) ∧ (decode cX11_letters 53 = .ok (.invokevirtual 412, 3)) ∧ (decode cX11_letters 56 = .ok (.goto 16, 3)) ∧ (decode cX11_letters 59 = .ok (.aload_n 0, 1)) ∧ (decode cX11_letters 60 = .ok (.iload_n 1, 1)) ∧ (decode cX11_letters 61 = .ok (.invokevirtual 415, 3)) ∧ (decode cX11_letters 64 = .ok (.ifCond .eq 7, 3)) ∧ (decode cX11_letters 67 = .ok (.iconst 1, 1)) ∧ (decode cX11_letters 68 = .ok (.goto 4, 3)) ∧ (decode cX11_letters 71 = .ok (.iconst 0, 1)) ∧ (decode cX11_letters 72 = .ok (.ireturn, 1)) := by decide +kernel
theorem dX11_letters_52 : decode cX11_letters 52 = .ok (.iload_n 1, 1) := gdX11_letters_52.1
theorem dX11_letters_53 : decode cX11_letters 53 = .ok (.invokevirtual 412, 3) := gdX11_letters_52.2.1
theorem dX11_letters_56 : decode cX11_letters 56 = .ok (.goto 16, 3) := gdX11_letters_52.2.2.1
theorem dX11_letters_59 : decode cX11_letters 59 = .ok (.aload_n 0, 1) := gdX11_letters_52.2.2.2.1
theorem dX11_letters_60 : decode cX11_letters 60 = .ok (.iload_n 1, 1) := gdX11_letters_52.2.2.2.2.1
theorem dX11_letters_61 : decode cX11_letters 61 = .ok (.invokevirtual 415, 3) := gdX11_letters_52.2.2.2.2.2.1
theorem dX11_letters_64 : decode cX11_letters 64 = .ok (.ifCond .eq 7, 3) := gdX11_letters_52.2.2.2.2.2.2.1
theorem dX11_letters_67 : decode cX11_letters 67 = .ok (.iconst 1, 1) := gdX11_letters_52.2.2.2.2.2.2.2.1
theorem dX11_letters_68 : decode cX11_letters 68 = .ok (.goto 4, 3) := gdX11_letters_52.2.2.2.2.2.2.2.2.1
theorem dX11_letters_71 : decode cX11_letters 71 = .ok (.iconst 0, 1) := gdX11_letters_52.2.2.2.2.2.2.2.2.2.1
theorem dX11_letters_72 : decode cX11_letters 72 = .ok (.ireturn, 1) := gdX11_letters_52.2.2.2.2.2.2.2.2.2.2
theorem gdX11_sentAt_0 : (decode cX11_sentAt 0 = .ok (.aload_n 0, 1)) ∧ (decode cX11_sentAt 1 = .ok (.iload_n 1, 1)) ∧ (decode cX11_sentAt 2 = .ok (.iconst 2, 1)) ∧ (decode cX11_sentAt 3 = .ok (.invokevirtual 409, 3)) ∧ (decode cX11_sentAt 6 = .ok (.i2l, 1)) ∧ (decode cX11_sentAt 7 = .ok (.aload_n 0, 1)) ∧ (decode cX11_sentAt 8 = .ok (.aload_n 0, 1)) ∧ (decode cX11_sentAt 9 = .ok (.iload_n 1, 1)) ∧ (decode cX11_sentAt 10 = .ok (.iconst 0, 1)) ∧ (decode cX11_sentAt 11 = .ok (.invokevirtual 409, 3)) ∧ (decode cX11_sentAt 14 = .ok (.invokevirtual 333, 3)) ∧ (decode cX11_sentAt 17 = .ok (.lmul, 1)) ∧ (decode cX11_sentAt 18 = .ok (.lreturn, 1)) := by decide +kernel
theorem dX11_sentAt_0 : decode cX11_sentAt 0 = .ok (.aload_n 0, 1) := gdX11_sentAt_0.1
theorem dX11_sentAt_1 : decode cX11_sentAt 1 = .ok (.iload_n 1, 1) := gdX11_sentAt_0.2.1
theorem dX11_sentAt_2 : decode cX11_sentAt 2 = .ok (.iconst 2, 1) := gdX11_sentAt_0.2.2.1
theorem dX11_sentAt_3 : decode cX11_sentAt 3 = .ok (.invokevirtual 409, 3) := gdX11_sentAt_0.2.2.2.1
theorem dX11_sentAt_6 : decode cX11_sentAt 6 = .ok (.i2l, 1) := gdX11_sentAt_0.2.2.2.2.1
theorem dX11_sentAt_7 : decode cX11_sentAt 7 = .ok (.aload_n 0, 1) := gdX11_sentAt_0.2.2.2.2.2.1
theorem dX11_sentAt_8 : decode cX11_sentAt 8 = .ok (.aload_n 0, 1) := gdX11_sentAt_0.2.2.2.2.2.2.1
theorem dX11_sentAt_9 : decode cX11_sentAt 9 = .ok (.iload_n 1, 1) := gdX11_sentAt_0.2.2.2.2.2.2.2.1
theorem dX11_sentAt_10 : decode cX11_sentAt 10 = .ok (.iconst 0, 1) := gdX11_sentAt_0.2.2.2.2.2.2.2.2.1
theorem dX11_sentAt_11 : decode cX11_sentAt 11 = .ok (.invokevirtual 409, 3) := gdX11_sentAt_0.2.2.2.2.2.2.2.2.2.1
theorem dX11_sentAt_14 : decode cX11_sentAt 14 = .ok (.invokevirtual 333, 3) := gdX11_sentAt_0.2.2.2.2.2.2.2.2.2.2.1
theorem dX11_sentAt_17 : decode cX11_sentAt 17 = .ok (.lmul, 1) := gdX11_sentAt_0.2.2.2.2.2.2.2.2.2.2.2.1
theorem dX11_sentAt_18 : decode cX11_sentAt 18 = .ok (.lreturn, 1) := gdX11_sentAt_0.2.2.2.2.2.2.2.2.2.2.2.2
theorem gdX11_crossed_0 : (decode cX11_crossed 0 = .ok (.iconst 0, 1)) ∧ (decode cX11_crossed 1 = .ok (.istore_n 1, 1)) ∧ (decode cX11_crossed 2 = .ok (.iconst 0, 1)) ∧ (decode cX11_crossed 3 = .ok (.istore_n 2, 1)) ∧ (decode cX11_crossed 4 = .ok (.iload_n 2, 1)) ∧ (decode cX11_crossed 5 = .ok (.aload_n 0, 1)) ∧ (decode cX11_crossed 6 = .ok (.getfield 45, 3)) ∧ (decode cX11_crossed 9 = .ok (.iconst 4, 1)) ∧ (decode cX11_crossed 10 = .ok (.iaload, 1)) ∧ (decode cX11_crossed 11 = .ok (.if_icmp .ge 62, 3)) ∧ (decode cX11_crossed 14 = .ok (.iconst 0, 1)) ∧ (decode cX11_crossed 15 = .ok (.istore_n 3, 1)) ∧ (decode cX11_crossed 16 = .ok (.iload_n 3, 1)) ∧ (decode cX11_crossed 17 = .ok (.aload_n 0, 1)) ∧ (decode cX11_crossed 18 = .ok (.getfield 45, 3)) ∧ (decode cX11_crossed 21 = .ok (.iconst 4, 1)) := by decide +kernel
theorem dX11_crossed_0 : decode cX11_crossed 0 = .ok (.iconst 0, 1) := gdX11_crossed_0.1
theorem dX11_crossed_1 : decode cX11_crossed 1 = .ok (.istore_n 1, 1) := gdX11_crossed_0.2.1
theorem dX11_crossed_2 : decode cX11_crossed 2 = .ok (.iconst 0, 1) := gdX11_crossed_0.2.2.1
theorem dX11_crossed_3 : decode cX11_crossed 3 = .ok (.istore_n 2, 1) := gdX11_crossed_0.2.2.2.1
theorem dX11_crossed_4 : decode cX11_crossed 4 = .ok (.iload_n 2, 1) := gdX11_crossed_0.2.2.2.2.1
theorem dX11_crossed_5 : decode cX11_crossed 5 = .ok (.aload_n 0, 1) := gdX11_crossed_0.2.2.2.2.2.1
theorem dX11_crossed_6 : decode cX11_crossed 6 = .ok (.getfield 45, 3) := gdX11_crossed_0.2.2.2.2.2.2.1
theorem dX11_crossed_9 : decode cX11_crossed 9 = .ok (.iconst 4, 1) := gdX11_crossed_0.2.2.2.2.2.2.2.1
theorem dX11_crossed_10 : decode cX11_crossed 10 = .ok (.iaload, 1) := gdX11_crossed_0.2.2.2.2.2.2.2.2.1
theorem dX11_crossed_11 : decode cX11_crossed 11 = .ok (.if_icmp .ge 62, 3) := gdX11_crossed_0.2.2.2.2.2.2.2.2.2.1
theorem dX11_crossed_14 : decode cX11_crossed 14 = .ok (.iconst 0, 1) := gdX11_crossed_0.2.2.2.2.2.2.2.2.2.2.1
theorem dX11_crossed_15 : decode cX11_crossed 15 = .ok (.istore_n 3, 1) := gdX11_crossed_0.2.2.2.2.2.2.2.2.2.2.2.1
theorem dX11_crossed_16 : decode cX11_crossed 16 = .ok (.iload_n 3, 1) := gdX11_crossed_0.2.2.2.2.2.2.2.2.2.2.2.2.1
theorem dX11_crossed_17 : decode cX11_crossed 17 = .ok (.aload_n 0, 1) := gdX11_crossed_0.2.2.2.2.2.2.2.2.2.2.2.2.2.1
theorem dX11_crossed_18 : decode cX11_crossed 18 = .ok (.getfield 45, 3) := gdX11_crossed_0.2.2.2.2.2.2.2.2.2.2.2.2.2.2.1
theorem dX11_crossed_21 : decode cX11_crossed 21 = .ok (.iconst 4, 1) := gdX11_crossed_0.2.2.2.2.2.2.2.2.2.2.2.2.2.2.2
theorem gdX11_crossed_22 : (decode cX11_crossed 22 = .ok (.iaload, 1)) ∧ (decode cX11_crossed 23 = .ok (.if_icmp .ge 44, 3)) ∧ (decode cX11_crossed 26 = .ok (.iload_n 1, 1)) ∧ (decode cX11_crossed 27 = .ok (.aload_n 0, 1)) ∧ (decode cX11_crossed 28 = .ok (.iload_n 2, 1)) ∧ (decode cX11_crossed 29 = .ok (.invokevirtual 418, 3)) ∧ (decode cX11_crossed 32 = .ok (.aload_n 0, 1)) ∧ (decode cX11_crossed 33 = .ok (.iload_n 3, 1)) ∧ (decode cX11_crossed 34 = .ok (.invokevirtual 418, 3)) ∧ (decode cX11_crossed 37 = .ok (.lcmp, 1)) ∧ (decode cX11_crossed 38 = .ok (.ifCond .ge 20, 3)) ∧ (decode cX11_crossed 41 = .ok (.aload_n 0, 1)) ∧ (decode cX11_crossed 42 = .ok (.iload_n 2, 1)) ∧ (decode cX11_crossed 43 = .ok (.invokevirtual 412, 3)) ∧ (decode cX11_crossed 46 = .ok (.aload_n 0, 1)) ∧ (decode cX11_crossed 47 = .ok (.iload_n 3, 1)) := by decide +kernel
theorem dX11_crossed_22 : decode cX11_crossed 22 = .ok (.iaload, 1) := gdX11_crossed_22.1
theorem dX11_crossed_23 : decode cX11_crossed 23 = .ok (.if_icmp .ge 44, 3) := gdX11_crossed_22.2.1
theorem dX11_crossed_26 : decode cX11_crossed 26 = .ok (.iload_n 1, 1) := gdX11_crossed_22.2.2.1
theorem dX11_crossed_27 : decode cX11_crossed 27 = .ok (.aload_n 0, 1) := gdX11_crossed_22.2.2.2.1
theorem dX11_crossed_28 : decode cX11_crossed 28 = .ok (.iload_n 2, 1) := gdX11_crossed_22.2.2.2.2.1
theorem dX11_crossed_29 : decode cX11_crossed 29 = .ok (.invokevirtual 418, 3) := gdX11_crossed_22.2.2.2.2.2.1
theorem dX11_crossed_32 : decode cX11_crossed 32 = .ok (.aload_n 0, 1) := gdX11_crossed_22.2.2.2.2.2.2.1
theorem dX11_crossed_33 : decode cX11_crossed 33 = .ok (.iload_n 3, 1) := gdX11_crossed_22.2.2.2.2.2.2.2.1
theorem dX11_crossed_34 : decode cX11_crossed 34 = .ok (.invokevirtual 418, 3) := gdX11_crossed_22.2.2.2.2.2.2.2.2.1
theorem dX11_crossed_37 : decode cX11_crossed 37 = .ok (.lcmp, 1) := gdX11_crossed_22.2.2.2.2.2.2.2.2.2.1
theorem dX11_crossed_38 : decode cX11_crossed 38 = .ok (.ifCond .ge 20, 3) := gdX11_crossed_22.2.2.2.2.2.2.2.2.2.2.1
theorem dX11_crossed_41 : decode cX11_crossed 41 = .ok (.aload_n 0, 1) := gdX11_crossed_22.2.2.2.2.2.2.2.2.2.2.2.1
theorem dX11_crossed_42 : decode cX11_crossed 42 = .ok (.iload_n 2, 1) := gdX11_crossed_22.2.2.2.2.2.2.2.2.2.2.2.2.1
theorem dX11_crossed_43 : decode cX11_crossed 43 = .ok (.invokevirtual 412, 3) := gdX11_crossed_22.2.2.2.2.2.2.2.2.2.2.2.2.2.1
theorem dX11_crossed_46 : decode cX11_crossed 46 = .ok (.aload_n 0, 1) := gdX11_crossed_22.2.2.2.2.2.2.2.2.2.2.2.2.2.2.1
theorem dX11_crossed_47 : decode cX11_crossed 47 = .ok (.iload_n 3, 1) := gdX11_crossed_22.2.2.2.2.2.2.2.2.2.2.2.2.2.2.2
theorem gdX11_crossed_48 : (decode cX11_crossed 48 = .ok (.invokevirtual 412, 3)) ∧ (decode cX11_crossed 51 = .ok (.if_icmp .le 7, 3)) ∧ (decode cX11_crossed 54 = .ok (.iconst 1, 1)) ∧ (decode cX11_crossed 55 = .ok (.goto 4, 3)) ∧ (decode cX11_crossed 58 = .ok (.iconst 0, 1)) ∧ (decode cX11_crossed 59 = .ok (.iadd, 1)) ∧ (decode cX11_crossed 60 = .ok (.istore_n 1, 1)) ∧ (decode cX11_crossed 61 = .ok (.iinc 3 1, 3)) ∧ (decode cX11_crossed 64 = .ok (.goto (-48), 3)) ∧ (decode cX11_crossed 67 = .ok (.iinc 2 1, 3)) ∧ (decode cX11_crossed 70 = .ok (.goto (-66), 3)) ∧ (decode cX11_crossed 73 = .ok (.iload_n 1, 1)) ∧ (decode cX11_crossed 74 = .ok (.ireturn, 1)) := by decide +kernel
theorem dX11_crossed_48 : decode cX11_crossed 48 = .ok (.invokevirtual 412, 3) := gdX11_crossed_48.1
theorem dX11_crossed_51 : decode cX11_crossed 51 = .ok (.if_icmp .le 7, 3) := gdX11_crossed_48.2.1
theorem dX11_crossed_54 : decode cX11_crossed 54 = .ok (.iconst 1, 1) := gdX11_crossed_48.2.2.1
theorem dX11_crossed_55 : decode cX11_crossed 55 = .ok (.goto 4, 3) := gdX11_crossed_48.2.2.2.1
theorem dX11_crossed_58 : decode cX11_crossed 58 = .ok (.iconst 0, 1) := gdX11_crossed_48.2.2.2.2.1
theorem dX11_crossed_59 : decode cX11_crossed 59 = .ok (.iadd, 1) := gdX11_crossed_48.2.2.2.2.2.1
theorem dX11_crossed_60 : decode cX11_crossed 60 = .ok (.istore_n 1, 1) := gdX11_crossed_48.2.2.2.2.2.2.1
theorem dX11_crossed_61 : decode cX11_crossed 61 = .ok (.iinc 3 1, 3) := gdX11_crossed_48.2.2.2.2.2.2.2.1
theorem dX11_crossed_64 : decode cX11_crossed 64 = .ok (.goto (-48), 3) := gdX11_crossed_48.2.2.2.2.2.2.2.2.1
theorem dX11_crossed_67 : decode cX11_crossed 67 = .ok (.iinc 2 1, 3) := gdX11_crossed_48.2.2.2.2.2.2.2.2.2.1
theorem dX11_crossed_70 : decode cX11_crossed 70 = .ok (.goto (-66), 3) := gdX11_crossed_48.2.2.2.2.2.2.2.2.2.2.1
theorem dX11_crossed_73 : decode cX11_crossed 73 = .ok (.iload_n 1, 1) := gdX11_crossed_48.2.2.2.2.2.2.2.2.2.2.2.1
theorem dX11_crossed_74 : decode cX11_crossed 74 = .ok (.ireturn, 1) := gdX11_crossed_48.2.2.2.2.2.2.2.2.2.2.2.2
theorem gdX11_order_0 : (decode cX11_order 0 = .ok (.iload_n 1, 1)) ∧ (decode cX11_order 1 = .ok (.i2l, 1)) ∧ (decode cX11_order 2 = .ok (.lconst 0, 1)) ∧ (decode cX11_order 3 = .ok (.aload_n 0, 1)) ∧ (decode cX11_order 4 = .ok (.getfield 45, 3)) ∧ (decode cX11_order 7 = .ok (.iconst 4, 1)) ∧ (decode cX11_order 8 = .ok (.iaload, 1)) ∧ (decode cX11_order 9 = .ok (.iconst 1, 1)) ∧ (decode cX11_order 10 = .ok (.isub, 1)) ∧ (decode cX11_order 11 = .ok (.i2l, 1)) ∧ (decode cX11_order 12 = .ok (.invokestatic 131, 3)) ∧ (decode cX11_order 15 = .ok (.ifCond .ne 5, 3)) ∧ (decode cX11_order 18 = .ok (.iconst (-1), 1)) ∧ (decode cX11_order 19 = .ok (.ireturn, 1)) ∧ (decode cX11_order 20 = .ok (.iconst 0, 1)) ∧ (decode cX11_order 21 = .ok (.istore_n 2, 1)) := by decide +kernel
theorem dX11_order_0 : decode cX11_order 0 = .ok (.iload_n 1, 1) := gdX11_order_0.1
theorem dX11_order_1 : decode cX11_order 1 = .ok (.i2l, 1) := gdX11_order_0.2.1
theorem dX11_order_2 : decode cX11_order 2 = .ok (.lconst 0, 1) := gdX11_order_0.2.2.1
theorem dX11_order_3 : decode cX11_order 3 = .ok (.aload_n 0, 1) := gdX11_order_0.2.2.2.1
theorem dX11_order_4 : decode cX11_order 4 = .ok (.getfield 45, 3) := gdX11_order_0.2.2.2.2.1
theorem dX11_order_7 : decode cX11_order 7 = .ok (.iconst 4, 1) := gdX11_order_0.2.2.2.2.2.1
theorem dX11_order_8 : decode cX11_order 8 = .ok (.iaload, 1) := gdX11_order_0.2.2.2.2.2.2.1
theorem dX11_order_9 : decode cX11_order 9 = .ok (.iconst 1, 1) := gdX11_order_0.2.2.2.2.2.2.2.1
theorem dX11_order_10 : decode cX11_order 10 = .ok (.isub, 1) := gdX11_order_0.2.2.2.2.2.2.2.2.1
theorem dX11_order_11 : decode cX11_order 11 = .ok (.i2l, 1) := gdX11_order_0.2.2.2.2.2.2.2.2.2.1
theorem dX11_order_12 : decode cX11_order 12 = .ok (.invokestatic 131, 3) := gdX11_order_0.2.2.2.2.2.2.2.2.2.2.1
theorem dX11_order_15 : decode cX11_order 15 = .ok (.ifCond .ne 5, 3) := gdX11_order_0.2.2.2.2.2.2.2.2.2.2.2.1
theorem dX11_order_18 : decode cX11_order 18 = .ok (.iconst (-1), 1) := gdX11_order_0.2.2.2.2.2.2.2.2.2.2.2.2.1
theorem dX11_order_19 : decode cX11_order 19 = .ok (.ireturn, 1) := gdX11_order_0.2.2.2.2.2.2.2.2.2.2.2.2.2.1
theorem dX11_order_20 : decode cX11_order 20 = .ok (.iconst 0, 1) := gdX11_order_0.2.2.2.2.2.2.2.2.2.2.2.2.2.2.1
theorem dX11_order_21 : decode cX11_order 21 = .ok (.istore_n 2, 1) := gdX11_order_0.2.2.2.2.2.2.2.2.2.2.2.2.2.2.2
theorem gdX11_order_22 : (decode cX11_order 22 = .ok (.iload_n 2, 1)) ∧ (decode cX11_order 23 = .ok (.aload_n 0, 1)) ∧ (decode cX11_order 24 = .ok (.getfield 45, 3)) ∧ (decode cX11_order 27 = .ok (.iconst 4, 1)) ∧ (decode cX11_order 28 = .ok (.iaload, 1)) ∧ (decode cX11_order 29 = .ok (.if_icmp .ge 80, 3)) ∧ (decode cX11_order 32 = .ok (.iconst 0, 1)) ∧ (decode cX11_order 33 = .ok (.istore_n 3, 1)) ∧ (decode cX11_order 34 = .ok (.iconst 0, 1)) ∧ (decode cX11_order 35 = .ok (.istore 4, 2)) ∧ (decode cX11_order 37 = .ok (.iload 4, 2)) ∧ (decode cX11_order 39 = .ok (.aload_n 0, 1)) ∧ (decode cX11_order 40 = .ok (.getfield 45, 3)) ∧ (decode cX11_order 43 = .ok (.iconst 4, 1)) ∧ (decode cX11_order 44 = .ok (.iaload, 1)) ∧ (decode cX11_order 45 = .ok (.if_icmp .ge 51, 3)) := by decide +kernel
theorem dX11_order_22 : decode cX11_order 22 = .ok (.iload_n 2, 1) := gdX11_order_22.1
theorem dX11_order_23 : decode cX11_order 23 = .ok (.aload_n 0, 1) := gdX11_order_22.2.1
theorem dX11_order_24 : decode cX11_order 24 = .ok (.getfield 45, 3) := gdX11_order_22.2.2.1
theorem dX11_order_27 : decode cX11_order 27 = .ok (.iconst 4, 1) := gdX11_order_22.2.2.2.1
theorem dX11_order_28 : decode cX11_order 28 = .ok (.iaload, 1) := gdX11_order_22.2.2.2.2.1
theorem dX11_order_29 : decode cX11_order 29 = .ok (.if_icmp .ge 80, 3) := gdX11_order_22.2.2.2.2.2.1
theorem dX11_order_32 : decode cX11_order 32 = .ok (.iconst 0, 1) := gdX11_order_22.2.2.2.2.2.2.1
theorem dX11_order_33 : decode cX11_order 33 = .ok (.istore_n 3, 1) := gdX11_order_22.2.2.2.2.2.2.2.1
theorem dX11_order_34 : decode cX11_order 34 = .ok (.iconst 0, 1) := gdX11_order_22.2.2.2.2.2.2.2.2.1
theorem dX11_order_35 : decode cX11_order 35 = .ok (.istore 4, 2) := gdX11_order_22.2.2.2.2.2.2.2.2.2.1
theorem dX11_order_37 : decode cX11_order 37 = .ok (.iload 4, 2) := gdX11_order_22.2.2.2.2.2.2.2.2.2.2.1
theorem dX11_order_39 : decode cX11_order 39 = .ok (.aload_n 0, 1) := gdX11_order_22.2.2.2.2.2.2.2.2.2.2.2.1
theorem dX11_order_40 : decode cX11_order 40 = .ok (.getfield 45, 3) := gdX11_order_22.2.2.2.2.2.2.2.2.2.2.2.2.1
theorem dX11_order_43 : decode cX11_order 43 = .ok (.iconst 4, 1) := gdX11_order_22.2.2.2.2.2.2.2.2.2.2.2.2.2.1
theorem dX11_order_44 : decode cX11_order 44 = .ok (.iaload, 1) := gdX11_order_22.2.2.2.2.2.2.2.2.2.2.2.2.2.2.1
theorem dX11_order_45 : decode cX11_order 45 = .ok (.if_icmp .ge 51, 3) := gdX11_order_22.2.2.2.2.2.2.2.2.2.2.2.2.2.2.2
theorem gdX11_order_48 : (decode cX11_order 48 = .ok (.iload_n 3, 1)) ∧ (decode cX11_order 49 = .ok (.aload_n 0, 1)) ∧ (decode cX11_order 50 = .ok (.iload 4, 2)) ∧ (decode cX11_order 52 = .ok (.invokevirtual 412, 3)) ∧ (decode cX11_order 55 = .ok (.aload_n 0, 1)) ∧ (decode cX11_order 56 = .ok (.iload_n 2, 1)) ∧ (decode cX11_order 57 = .ok (.invokevirtual 412, 3)) ∧ (decode cX11_order 60 = .ok (.if_icmp .lt 23, 3)) ∧ (decode cX11_order 63 = .ok (.aload_n 0, 1)) ∧ (decode cX11_order 64 = .ok (.iload 4, 2)) ∧ (decode cX11_order 66 = .ok (.invokevirtual 412, 3)) ∧ (decode cX11_order 69 = .ok (.aload_n 0, 1)) ∧ (decode cX11_order 70 = .ok (.iload_n 2, 1)) ∧ (decode cX11_order 71 = .ok (.invokevirtual 412, 3)) ∧ (decode cX11_order 74 = .ok (.if_icmp .ne 13, 3)) ∧ (decode cX11_order 77 = .ok (.iload 4, 2)) := by decide +kernel
theorem dX11_order_48 : decode cX11_order 48 = .ok (.iload_n 3, 1) := gdX11_order_48.1
theorem dX11_order_49 : decode cX11_order 49 = .ok (.aload_n 0, 1) := gdX11_order_48.2.1
theorem dX11_order_50 : decode cX11_order 50 = .ok (.iload 4, 2) := gdX11_order_48.2.2.1
theorem dX11_order_52 : decode cX11_order 52 = .ok (.invokevirtual 412, 3) := gdX11_order_48.2.2.2.1
theorem dX11_order_55 : decode cX11_order 55 = .ok (.aload_n 0, 1) := gdX11_order_48.2.2.2.2.1
theorem dX11_order_56 : decode cX11_order 56 = .ok (.iload_n 2, 1) := gdX11_order_48.2.2.2.2.2.1
theorem dX11_order_57 : decode cX11_order 57 = .ok (.invokevirtual 412, 3) := gdX11_order_48.2.2.2.2.2.2.1
theorem dX11_order_60 : decode cX11_order 60 = .ok (.if_icmp .lt 23, 3) := gdX11_order_48.2.2.2.2.2.2.2.1
theorem dX11_order_63 : decode cX11_order 63 = .ok (.aload_n 0, 1) := gdX11_order_48.2.2.2.2.2.2.2.2.1
theorem dX11_order_64 : decode cX11_order 64 = .ok (.iload 4, 2) := gdX11_order_48.2.2.2.2.2.2.2.2.2.1
theorem dX11_order_66 : decode cX11_order 66 = .ok (.invokevirtual 412, 3) := gdX11_order_48.2.2.2.2.2.2.2.2.2.2.1
theorem dX11_order_69 : decode cX11_order 69 = .ok (.aload_n 0, 1) := gdX11_order_48.2.2.2.2.2.2.2.2.2.2.2.1
theorem dX11_order_70 : decode cX11_order 70 = .ok (.iload_n 2, 1) := gdX11_order_48.2.2.2.2.2.2.2.2.2.2.2.2.1
theorem dX11_order_71 : decode cX11_order 71 = .ok (.invokevirtual 412, 3) := gdX11_order_48.2.2.2.2.2.2.2.2.2.2.2.2.2.1
theorem dX11_order_74 : decode cX11_order 74 = .ok (.if_icmp .ne 13, 3) := gdX11_order_48.2.2.2.2.2.2.2.2.2.2.2.2.2.2.1
theorem dX11_order_77 : decode cX11_order 77 = .ok (.iload 4, 2) := gdX11_order_48.2.2.2.2.2.2.2.2.2.2.2.2.2.2.2
theorem gdX11_order_79 : (decode cX11_order 79 = .ok (.iload_n 2, 1)) ∧ (decode cX11_order 80 = .ok (.if_icmp .ge 7, 3)) ∧ (decode cX11_order 83 = .ok (.iconst 1, 1)) ∧ (decode cX11_order 84 = .ok (.goto 4, 3)) ∧ (decode cX11_order 87 = .ok (.iconst 0, 1)) ∧ (decode cX11_order 88 = .ok (.iadd, 1)) ∧ (decode cX11_order 89 = .ok (.istore_n 3, 1)) ∧ (decode cX11_order 90 = .ok (.iinc 4 1, 3)) ∧ (decode cX11_order 93 = .ok (.goto (-56), 3)) ∧ (decode cX11_order 96 = .ok (.iload_n 3, 1)) ∧ (decode cX11_order 97 = .ok (.iload_n 1, 1)) ∧ (decode cX11_order 98 = .ok (.if_icmp .ne 5, 3)) ∧ (decode cX11_order 101 = .ok (.iload_n 2, 1)) ∧ (decode cX11_order 102 = .ok (.ireturn, 1)) ∧ (decode cX11_order 103 = .ok (.iinc 2 1, 3)) ∧ (decode cX11_order 106 = .ok (.goto (-84), 3)) := by decide +kernel
theorem dX11_order_79 : decode cX11_order 79 = .ok (.iload_n 2, 1) := gdX11_order_79.1
theorem dX11_order_80 : decode cX11_order 80 = .ok (.if_icmp .ge 7, 3) := gdX11_order_79.2.1
theorem dX11_order_83 : decode cX11_order 83 = .ok (.iconst 1, 1) := gdX11_order_79.2.2.1
theorem dX11_order_84 : decode cX11_order 84 = .ok (.goto 4, 3) := gdX11_order_79.2.2.2.1
theorem dX11_order_87 : decode cX11_order 87 = .ok (.iconst 0, 1) := gdX11_order_79.2.2.2.2.1
theorem dX11_order_88 : decode cX11_order 88 = .ok (.iadd, 1) := gdX11_order_79.2.2.2.2.2.1
theorem dX11_order_89 : decode cX11_order 89 = .ok (.istore_n 3, 1) := gdX11_order_79.2.2.2.2.2.2.1
theorem dX11_order_90 : decode cX11_order 90 = .ok (.iinc 4 1, 3) := gdX11_order_79.2.2.2.2.2.2.2.1
theorem dX11_order_93 : decode cX11_order 93 = .ok (.goto (-56), 3) := gdX11_order_79.2.2.2.2.2.2.2.2.1
theorem dX11_order_96 : decode cX11_order 96 = .ok (.iload_n 3, 1) := gdX11_order_79.2.2.2.2.2.2.2.2.2.1
theorem dX11_order_97 : decode cX11_order 97 = .ok (.iload_n 1, 1) := gdX11_order_79.2.2.2.2.2.2.2.2.2.2.1
theorem dX11_order_98 : decode cX11_order 98 = .ok (.if_icmp .ne 5, 3) := gdX11_order_79.2.2.2.2.2.2.2.2.2.2.2.1
theorem dX11_order_101 : decode cX11_order 101 = .ok (.iload_n 2, 1) := gdX11_order_79.2.2.2.2.2.2.2.2.2.2.2.2.1
theorem dX11_order_102 : decode cX11_order 102 = .ok (.ireturn, 1) := gdX11_order_79.2.2.2.2.2.2.2.2.2.2.2.2.2.1
theorem dX11_order_103 : decode cX11_order 103 = .ok (.iinc 2 1, 3) := gdX11_order_79.2.2.2.2.2.2.2.2.2.2.2.2.2.2.1
theorem dX11_order_106 : decode cX11_order 106 = .ok (.goto (-84), 3) := gdX11_order_79.2.2.2.2.2.2.2.2.2.2.2.2.2.2.2
theorem gdX11_order_109 : (decode cX11_order 109 = .ok (.iconst (-1), 1)) ∧ (decode cX11_order 110 = .ok (.ireturn, 1)) := by decide +kernel
theorem dX11_order_109 : decode cX11_order 109 = .ok (.iconst (-1), 1) := gdX11_order_109.1
theorem dX11_order_110 : decode cX11_order 110 = .ok (.ireturn, 1) := gdX11_order_109.2
theorem gdX11_seed_0 : (decode cX11_seed 0 = .ok (.iload_n 1, 1)) ∧ (decode cX11_seed 1 = .ok (.ifCond .ge 5, 3)) ∧ (decode cX11_seed 4 = .ok (.iconst (-1), 1)) ∧ (decode cX11_seed 5 = .ok (.ireturn, 1)) ∧ (decode cX11_seed 6 = .ok (.aload_n 0, 1)) ∧ (decode cX11_seed 7 = .ok (.getfield 45, 3)) ∧ (decode cX11_seed 10 = .ok (.iconst 5, 1)) ∧ (decode cX11_seed 11 = .ok (.iaload, 1)) ∧ (decode cX11_seed 12 = .ok (.istore_n 2, 1)) ∧ (decode cX11_seed 13 = .ok (.aload_n 0, 1)) ∧ (decode cX11_seed 14 = .ok (.getfield 45, 3)) ∧ (decode cX11_seed 17 = .ok (.iconst 5, 1)) ∧ (decode cX11_seed 18 = .ok (.iload_n 1, 1)) ∧ (decode cX11_seed 19 = .ok (.iastore, 1)) ∧ (decode cX11_seed 20 = .ok (.iload_n 2, 1)) ∧ (decode cX11_seed 21 = .ok (.ireturn, 1)) := by decide +kernel
theorem dX11_seed_0 : decode cX11_seed 0 = .ok (.iload_n 1, 1) := gdX11_seed_0.1
theorem dX11_seed_1 : decode cX11_seed 1 = .ok (.ifCond .ge 5, 3) := gdX11_seed_0.2.1
theorem dX11_seed_4 : decode cX11_seed 4 = .ok (.iconst (-1), 1) := gdX11_seed_0.2.2.1
theorem dX11_seed_5 : decode cX11_seed 5 = .ok (.ireturn, 1) := gdX11_seed_0.2.2.2.1
theorem dX11_seed_6 : decode cX11_seed 6 = .ok (.aload_n 0, 1) := gdX11_seed_0.2.2.2.2.1
theorem dX11_seed_7 : decode cX11_seed 7 = .ok (.getfield 45, 3) := gdX11_seed_0.2.2.2.2.2.1
theorem dX11_seed_10 : decode cX11_seed 10 = .ok (.iconst 5, 1) := gdX11_seed_0.2.2.2.2.2.2.1
theorem dX11_seed_11 : decode cX11_seed 11 = .ok (.iaload, 1) := gdX11_seed_0.2.2.2.2.2.2.2.1
theorem dX11_seed_12 : decode cX11_seed 12 = .ok (.istore_n 2, 1) := gdX11_seed_0.2.2.2.2.2.2.2.2.1
theorem dX11_seed_13 : decode cX11_seed 13 = .ok (.aload_n 0, 1) := gdX11_seed_0.2.2.2.2.2.2.2.2.2.1
theorem dX11_seed_14 : decode cX11_seed 14 = .ok (.getfield 45, 3) := gdX11_seed_0.2.2.2.2.2.2.2.2.2.2.1
theorem dX11_seed_17 : decode cX11_seed 17 = .ok (.iconst 5, 1) := gdX11_seed_0.2.2.2.2.2.2.2.2.2.2.2.1
theorem dX11_seed_18 : decode cX11_seed 18 = .ok (.iload_n 1, 1) := gdX11_seed_0.2.2.2.2.2.2.2.2.2.2.2.2.1
theorem dX11_seed_19 : decode cX11_seed 19 = .ok (.iastore, 1) := gdX11_seed_0.2.2.2.2.2.2.2.2.2.2.2.2.2.1
theorem dX11_seed_20 : decode cX11_seed 20 = .ok (.iload_n 2, 1) := gdX11_seed_0.2.2.2.2.2.2.2.2.2.2.2.2.2.2.1
theorem dX11_seed_21 : decode cX11_seed 21 = .ok (.ireturn, 1) := gdX11_seed_0.2.2.2.2.2.2.2.2.2.2.2.2.2.2.2
theorem gdX11_draw_0 : (decode cX11_draw 0 = .ok (.aload_n 0, 1)) ∧ (decode cX11_draw 1 = .ok (.aload_n 0, 1)) ∧ (decode cX11_draw 2 = .ok (.getfield 421, 3)) ∧ (decode cX11_draw 5 = .ok (.ldc2_w 425, 3)) ∧ (decode cX11_draw 8 = .ok (.lmul, 1)) ∧ (decode cX11_draw 9 = .ok (.ldc2_w 427, 3)) ∧ (decode cX11_draw 12 = .ok (.ladd, 1)) ∧ (decode cX11_draw 13 = .ok (.ldc2_w 429, 3)) ∧ (decode cX11_draw 16 = .ok (.lrem, 1)) ∧ (decode cX11_draw 17 = .ok (.putfield 421, 3)) ∧ (decode cX11_draw 20 = .ok (.aload_n 0, 1)) ∧ (decode cX11_draw 21 = .ok (.getfield 421, 3)) ∧ (decode cX11_draw 24 = .ok (.ldc2_w 431, 3)) ∧ (decode cX11_draw 27 = .ok (.ldiv, 1)) ∧ (decode cX11_draw 28 = .ok (.lreturn, 1)) := by decide +kernel
theorem dX11_draw_0 : decode cX11_draw 0 = .ok (.aload_n 0, 1) := gdX11_draw_0.1
theorem dX11_draw_1 : decode cX11_draw 1 = .ok (.aload_n 0, 1) := gdX11_draw_0.2.1
theorem dX11_draw_2 : decode cX11_draw 2 = .ok (.getfield 421, 3) := gdX11_draw_0.2.2.1
theorem dX11_draw_5 : decode cX11_draw 5 = .ok (.ldc2_w 425, 3) := gdX11_draw_0.2.2.2.1
theorem dX11_draw_8 : decode cX11_draw 8 = .ok (.lmul, 1) := gdX11_draw_0.2.2.2.2.1
theorem dX11_draw_9 : decode cX11_draw 9 = .ok (.ldc2_w 427, 3) := gdX11_draw_0.2.2.2.2.2.1
theorem dX11_draw_12 : decode cX11_draw 12 = .ok (.ladd, 1) := gdX11_draw_0.2.2.2.2.2.2.1
theorem dX11_draw_13 : decode cX11_draw 13 = .ok (.ldc2_w 429, 3) := gdX11_draw_0.2.2.2.2.2.2.2.1
theorem dX11_draw_16 : decode cX11_draw 16 = .ok (.lrem, 1) := gdX11_draw_0.2.2.2.2.2.2.2.2.1
theorem dX11_draw_17 : decode cX11_draw 17 = .ok (.putfield 421, 3) := gdX11_draw_0.2.2.2.2.2.2.2.2.2.1
theorem dX11_draw_20 : decode cX11_draw 20 = .ok (.aload_n 0, 1) := gdX11_draw_0.2.2.2.2.2.2.2.2.2.2.1
theorem dX11_draw_21 : decode cX11_draw 21 = .ok (.getfield 421, 3) := gdX11_draw_0.2.2.2.2.2.2.2.2.2.2.2.1
theorem dX11_draw_24 : decode cX11_draw 24 = .ok (.ldc2_w 431, 3) := gdX11_draw_0.2.2.2.2.2.2.2.2.2.2.2.2.1
theorem dX11_draw_27 : decode cX11_draw 27 = .ok (.ldiv, 1) := gdX11_draw_0.2.2.2.2.2.2.2.2.2.2.2.2.2.1
theorem dX11_draw_28 : decode cX11_draw 28 = .ok (.lreturn, 1) := gdX11_draw_0.2.2.2.2.2.2.2.2.2.2.2.2.2.2
theorem gdX11_wanders_0 : (decode cX11_wanders 0 = .ok (.aload_n 0, 1)) ∧ (decode cX11_wanders 1 = .ok (.iload_n 1, 1)) ∧ (decode cX11_wanders 2 = .ok (.iconst 0, 1)) ∧ (decode cX11_wanders 3 = .ok (.invokevirtual 296, 3)) ∧ (decode cX11_wanders 6 = .ok (.istore_n 2, 1)) ∧ (decode cX11_wanders 7 = .ok (.iload_n 2, 1)) ∧ (decode cX11_wanders 8 = .ok (.ifCond .lt 16, 3)) ∧ (decode cX11_wanders 11 = .ok (.aload_n 0, 1)) ∧ (decode cX11_wanders 12 = .ok (.invokevirtual 433, 3)) ∧ (decode cX11_wanders 15 = .ok (.ldc2_w 314, 3)) ∧ (decode cX11_wanders 18 = .ok (.lrem, 1)) ∧ (decode cX11_wanders 19 = .ok (.lconst 0, 1)) ∧ (decode cX11_wanders 20 = .ok (.lcmp, 1)) ∧ (decode cX11_wanders 21 = .ok (.ifCond .eq 4, 3)) ∧ (decode cX11_wanders 24 = .ok (.return_, 1)) ∧ (decode cX11_wanders 25 = .ok (.iconst 0, 1)) := by decide +kernel
theorem dX11_wanders_0 : decode cX11_wanders 0 = .ok (.aload_n 0, 1) := gdX11_wanders_0.1
theorem dX11_wanders_1 : decode cX11_wanders 1 = .ok (.iload_n 1, 1) := gdX11_wanders_0.2.1
theorem dX11_wanders_2 : decode cX11_wanders 2 = .ok (.iconst 0, 1) := gdX11_wanders_0.2.2.1
theorem dX11_wanders_3 : decode cX11_wanders 3 = .ok (.invokevirtual 296, 3) := gdX11_wanders_0.2.2.2.1
theorem dX11_wanders_6 : decode cX11_wanders 6 = .ok (.istore_n 2, 1) := gdX11_wanders_0.2.2.2.2.1
theorem dX11_wanders_7 : decode cX11_wanders 7 = .ok (.iload_n 2, 1) := gdX11_wanders_0.2.2.2.2.2.1
theorem dX11_wanders_8 : decode cX11_wanders 8 = .ok (.ifCond .lt 16, 3) := gdX11_wanders_0.2.2.2.2.2.2.1
theorem dX11_wanders_11 : decode cX11_wanders 11 = .ok (.aload_n 0, 1) := gdX11_wanders_0.2.2.2.2.2.2.2.1
theorem dX11_wanders_12 : decode cX11_wanders 12 = .ok (.invokevirtual 433, 3) := gdX11_wanders_0.2.2.2.2.2.2.2.2.1
theorem dX11_wanders_15 : decode cX11_wanders 15 = .ok (.ldc2_w 314, 3) := gdX11_wanders_0.2.2.2.2.2.2.2.2.2.1
theorem dX11_wanders_18 : decode cX11_wanders 18 = .ok (.lrem, 1) := gdX11_wanders_0.2.2.2.2.2.2.2.2.2.2.1
theorem dX11_wanders_19 : decode cX11_wanders 19 = .ok (.lconst 0, 1) := gdX11_wanders_0.2.2.2.2.2.2.2.2.2.2.2.1
theorem dX11_wanders_20 : decode cX11_wanders 20 = .ok (.lcmp, 1) := gdX11_wanders_0.2.2.2.2.2.2.2.2.2.2.2.2.1
theorem dX11_wanders_21 : decode cX11_wanders 21 = .ok (.ifCond .eq 4, 3) := gdX11_wanders_0.2.2.2.2.2.2.2.2.2.2.2.2.2.1
theorem dX11_wanders_24 : decode cX11_wanders 24 = .ok (.return_, 1) := gdX11_wanders_0.2.2.2.2.2.2.2.2.2.2.2.2.2.2.1
theorem dX11_wanders_25 : decode cX11_wanders 25 = .ok (.iconst 0, 1) := gdX11_wanders_0.2.2.2.2.2.2.2.2.2.2.2.2.2.2.2
theorem gdX11_wanders_26 : (decode cX11_wanders 26 = .ok (.istore_n 3, 1)) ∧ (decode cX11_wanders 27 = .ok (.iconst 0, 1)) ∧ (decode cX11_wanders 28 = .ok (.istore 4, 2)) ∧ (decode cX11_wanders 30 = .ok (.iload 4, 2)) ∧ (decode cX11_wanders 32 = .ok (.aload_n 0, 1)) ∧ (decode cX11_wanders 33 = .ok (.getfield 45, 3)) ∧ (decode cX11_wanders 36 = .ok (.iconst 1, 1)) ∧ (decode cX11_wanders 37 = .ok (.iaload, 1)) ∧ (decode cX11_wanders 38 = .ok (.if_icmp .ge 27, 3)) ∧ (decode cX11_wanders 41 = .ok (.iload_n 3, 1)) ∧ (decode cX11_wanders 42 = .ok (.aload_n 0, 1)) ∧ (decode cX11_wanders 43 = .ok (.iload 4, 2)) ∧ (decode cX11_wanders 45 = .ok (.iload_n 2, 1)) ∧ (decode cX11_wanders 46 = .ok (.invokevirtual 293, 3)) ∧ (decode cX11_wanders 49 = .ok (.ifCond .lt 7, 3)) ∧ (decode cX11_wanders 52 = .ok (.iconst 1, 1)) := by decide +kernel
theorem dX11_wanders_26 : decode cX11_wanders 26 = .ok (.istore_n 3, 1) := gdX11_wanders_26.1
theorem dX11_wanders_27 : decode cX11_wanders 27 = .ok (.iconst 0, 1) := gdX11_wanders_26.2.1
theorem dX11_wanders_28 : decode cX11_wanders 28 = .ok (.istore 4, 2) := gdX11_wanders_26.2.2.1
theorem dX11_wanders_30 : decode cX11_wanders 30 = .ok (.iload 4, 2) := gdX11_wanders_26.2.2.2.1
theorem dX11_wanders_32 : decode cX11_wanders 32 = .ok (.aload_n 0, 1) := gdX11_wanders_26.2.2.2.2.1
theorem dX11_wanders_33 : decode cX11_wanders 33 = .ok (.getfield 45, 3) := gdX11_wanders_26.2.2.2.2.2.1
theorem dX11_wanders_36 : decode cX11_wanders 36 = .ok (.iconst 1, 1) := gdX11_wanders_26.2.2.2.2.2.2.1
theorem dX11_wanders_37 : decode cX11_wanders 37 = .ok (.iaload, 1) := gdX11_wanders_26.2.2.2.2.2.2.2.1
theorem dX11_wanders_38 : decode cX11_wanders 38 = .ok (.if_icmp .ge 27, 3) := gdX11_wanders_26.2.2.2.2.2.2.2.2.1
theorem dX11_wanders_41 : decode cX11_wanders 41 = .ok (.iload_n 3, 1) := gdX11_wanders_26.2.2.2.2.2.2.2.2.2.1
theorem dX11_wanders_42 : decode cX11_wanders 42 = .ok (.aload_n 0, 1) := gdX11_wanders_26.2.2.2.2.2.2.2.2.2.2.1
theorem dX11_wanders_43 : decode cX11_wanders 43 = .ok (.iload 4, 2) := gdX11_wanders_26.2.2.2.2.2.2.2.2.2.2.2.1
theorem dX11_wanders_45 : decode cX11_wanders 45 = .ok (.iload_n 2, 1) := gdX11_wanders_26.2.2.2.2.2.2.2.2.2.2.2.2.1
theorem dX11_wanders_46 : decode cX11_wanders 46 = .ok (.invokevirtual 293, 3) := gdX11_wanders_26.2.2.2.2.2.2.2.2.2.2.2.2.2.1
theorem dX11_wanders_49 : decode cX11_wanders 49 = .ok (.ifCond .lt 7, 3) := gdX11_wanders_26.2.2.2.2.2.2.2.2.2.2.2.2.2.2.1
theorem dX11_wanders_52 : decode cX11_wanders 52 = .ok (.iconst 1, 1) := gdX11_wanders_26.2.2.2.2.2.2.2.2.2.2.2.2.2.2.2
theorem gdX11_wanders_53 : (decode cX11_wanders 53 = .ok (.goto 4, 3)) ∧ (decode cX11_wanders 56 = .ok (.iconst 0, 1)) ∧ (decode cX11_wanders 57 = .ok (.iadd, 1)) ∧ (decode cX11_wanders 58 = .ok (.istore_n 3, 1)) ∧ (decode cX11_wanders 59 = .ok (.iinc 4 1, 3)) ∧ (decode cX11_wanders 62 = .ok (.goto (-32), 3)) ∧ (decode cX11_wanders 65 = .ok (.iload_n 3, 1)) ∧ (decode cX11_wanders 66 = .ok (.ifCond .ne 4, 3)) ∧ (decode cX11_wanders 69 = .ok (.return_, 1)) ∧ (decode cX11_wanders 70 = .ok (.aload_n 0, 1)) ∧ (decode cX11_wanders 71 = .ok (.invokevirtual 433, 3)) ∧ (decode cX11_wanders 74 = .ok (.iload_n 3, 1)) ∧ (decode cX11_wanders 75 = .ok (.i2l, 1)) ∧ (decode cX11_wanders 76 = .ok (.lrem, 1)) ∧ (decode cX11_wanders 77 = .ok (.l2i, 1)) ∧ (decode cX11_wanders 78 = .ok (.istore 4, 2)) := by decide +kernel
theorem dX11_wanders_53 : decode cX11_wanders 53 = .ok (.goto 4, 3) := gdX11_wanders_53.1
theorem dX11_wanders_56 : decode cX11_wanders 56 = .ok (.iconst 0, 1) := gdX11_wanders_53.2.1
theorem dX11_wanders_57 : decode cX11_wanders 57 = .ok (.iadd, 1) := gdX11_wanders_53.2.2.1
theorem dX11_wanders_58 : decode cX11_wanders 58 = .ok (.istore_n 3, 1) := gdX11_wanders_53.2.2.2.1
theorem dX11_wanders_59 : decode cX11_wanders 59 = .ok (.iinc 4 1, 3) := gdX11_wanders_53.2.2.2.2.1
theorem dX11_wanders_62 : decode cX11_wanders 62 = .ok (.goto (-32), 3) := gdX11_wanders_53.2.2.2.2.2.1
theorem dX11_wanders_65 : decode cX11_wanders 65 = .ok (.iload_n 3, 1) := gdX11_wanders_53.2.2.2.2.2.2.1
theorem dX11_wanders_66 : decode cX11_wanders 66 = .ok (.ifCond .ne 4, 3) := gdX11_wanders_53.2.2.2.2.2.2.2.1
theorem dX11_wanders_69 : decode cX11_wanders 69 = .ok (.return_, 1) := gdX11_wanders_53.2.2.2.2.2.2.2.2.1
theorem dX11_wanders_70 : decode cX11_wanders 70 = .ok (.aload_n 0, 1) := gdX11_wanders_53.2.2.2.2.2.2.2.2.2.1
theorem dX11_wanders_71 : decode cX11_wanders 71 = .ok (.invokevirtual 433, 3) := gdX11_wanders_53.2.2.2.2.2.2.2.2.2.2.1
theorem dX11_wanders_74 : decode cX11_wanders 74 = .ok (.iload_n 3, 1) := gdX11_wanders_53.2.2.2.2.2.2.2.2.2.2.2.1
theorem dX11_wanders_75 : decode cX11_wanders 75 = .ok (.i2l, 1) := gdX11_wanders_53.2.2.2.2.2.2.2.2.2.2.2.2.1
theorem dX11_wanders_76 : decode cX11_wanders 76 = .ok (.lrem, 1) := gdX11_wanders_53.2.2.2.2.2.2.2.2.2.2.2.2.2.1
theorem dX11_wanders_77 : decode cX11_wanders 77 = .ok (.l2i, 1) := gdX11_wanders_53.2.2.2.2.2.2.2.2.2.2.2.2.2.2.1
theorem dX11_wanders_78 : decode cX11_wanders 78 = .ok (.istore 4, 2) := gdX11_wanders_53.2.2.2.2.2.2.2.2.2.2.2.2.2.2.2
theorem gdX11_wanders_80 : (decode cX11_wanders 80 = .ok (.iconst 0, 1)) ∧ (decode cX11_wanders 81 = .ok (.istore 5, 2)) ∧ (decode cX11_wanders 83 = .ok (.aload_n 0, 1)) ∧ (decode cX11_wanders 84 = .ok (.iload 5, 2)) ∧ (decode cX11_wanders 86 = .ok (.iload_n 2, 1)) ∧ (decode cX11_wanders 87 = .ok (.invokevirtual 293, 3)) ∧ (decode cX11_wanders 90 = .ok (.ifCond .lt 8, 3)) ∧ (decode cX11_wanders 93 = .ok (.iload 4, 2)) ∧ (decode cX11_wanders 95 = .ok (.ifCond .le 29, 3)) ∧ (decode cX11_wanders 98 = .ok (.iload 4, 2)) ∧ (decode cX11_wanders 100 = .ok (.aload_n 0, 1)) ∧ (decode cX11_wanders 101 = .ok (.iload 5, 2)) ∧ (decode cX11_wanders 103 = .ok (.iload_n 2, 1)) ∧ (decode cX11_wanders 104 = .ok (.invokevirtual 293, 3)) ∧ (decode cX11_wanders 107 = .ok (.ifCond .lt 7, 3)) ∧ (decode cX11_wanders 110 = .ok (.iconst 1, 1)) := by decide +kernel
theorem dX11_wanders_80 : decode cX11_wanders 80 = .ok (.iconst 0, 1) := gdX11_wanders_80.1
theorem dX11_wanders_81 : decode cX11_wanders 81 = .ok (.istore 5, 2) := gdX11_wanders_80.2.1
theorem dX11_wanders_83 : decode cX11_wanders 83 = .ok (.aload_n 0, 1) := gdX11_wanders_80.2.2.1
theorem dX11_wanders_84 : decode cX11_wanders 84 = .ok (.iload 5, 2) := gdX11_wanders_80.2.2.2.1
theorem dX11_wanders_86 : decode cX11_wanders 86 = .ok (.iload_n 2, 1) := gdX11_wanders_80.2.2.2.2.1
theorem dX11_wanders_87 : decode cX11_wanders 87 = .ok (.invokevirtual 293, 3) := gdX11_wanders_80.2.2.2.2.2.1
theorem dX11_wanders_90 : decode cX11_wanders 90 = .ok (.ifCond .lt 8, 3) := gdX11_wanders_80.2.2.2.2.2.2.1
theorem dX11_wanders_93 : decode cX11_wanders 93 = .ok (.iload 4, 2) := gdX11_wanders_80.2.2.2.2.2.2.2.1
theorem dX11_wanders_95 : decode cX11_wanders 95 = .ok (.ifCond .le 29, 3) := gdX11_wanders_80.2.2.2.2.2.2.2.2.1
theorem dX11_wanders_98 : decode cX11_wanders 98 = .ok (.iload 4, 2) := gdX11_wanders_80.2.2.2.2.2.2.2.2.2.1
theorem dX11_wanders_100 : decode cX11_wanders 100 = .ok (.aload_n 0, 1) := gdX11_wanders_80.2.2.2.2.2.2.2.2.2.2.1
theorem dX11_wanders_101 : decode cX11_wanders 101 = .ok (.iload 5, 2) := gdX11_wanders_80.2.2.2.2.2.2.2.2.2.2.2.1
theorem dX11_wanders_103 : decode cX11_wanders 103 = .ok (.iload_n 2, 1) := gdX11_wanders_80.2.2.2.2.2.2.2.2.2.2.2.2.1
theorem dX11_wanders_104 : decode cX11_wanders 104 = .ok (.invokevirtual 293, 3) := gdX11_wanders_80.2.2.2.2.2.2.2.2.2.2.2.2.2.1
theorem dX11_wanders_107 : decode cX11_wanders 107 = .ok (.ifCond .lt 7, 3) := gdX11_wanders_80.2.2.2.2.2.2.2.2.2.2.2.2.2.2.1
theorem dX11_wanders_110 : decode cX11_wanders 110 = .ok (.iconst 1, 1) := gdX11_wanders_80.2.2.2.2.2.2.2.2.2.2.2.2.2.2.2
theorem gdX11_wanders_111 : (decode cX11_wanders 111 = .ok (.goto 4, 3)) ∧ (decode cX11_wanders 114 = .ok (.iconst 0, 1)) ∧ (decode cX11_wanders 115 = .ok (.isub, 1)) ∧ (decode cX11_wanders 116 = .ok (.istore 4, 2)) ∧ (decode cX11_wanders 118 = .ok (.iinc 5 1, 3)) ∧ (decode cX11_wanders 121 = .ok (.goto (-38), 3)) ∧ (decode cX11_wanders 124 = .ok (.aload_n 0, 1)) ∧ (decode cX11_wanders 125 = .ok (.iload_n 1, 1)) ∧ (decode cX11_wanders 126 = .ok (.iload 5, 2)) ∧ (decode cX11_wanders 128 = .ok (.invokevirtual 323, 3)) ∧ (decode cX11_wanders 131 = .ok (.return_, 1)) := by decide +kernel
theorem dX11_wanders_111 : decode cX11_wanders 111 = .ok (.goto 4, 3) := gdX11_wanders_111.1
theorem dX11_wanders_114 : decode cX11_wanders 114 = .ok (.iconst 0, 1) := gdX11_wanders_111.2.1
theorem dX11_wanders_115 : decode cX11_wanders 115 = .ok (.isub, 1) := gdX11_wanders_111.2.2.1
theorem dX11_wanders_116 : decode cX11_wanders 116 = .ok (.istore 4, 2) := gdX11_wanders_111.2.2.2.1
theorem dX11_wanders_118 : decode cX11_wanders 118 = .ok (.iinc 5 1, 3) := gdX11_wanders_111.2.2.2.2.1
theorem dX11_wanders_121 : decode cX11_wanders 121 = .ok (.goto (-38), 3) := gdX11_wanders_111.2.2.2.2.2.1
theorem dX11_wanders_124 : decode cX11_wanders 124 = .ok (.aload_n 0, 1) := gdX11_wanders_111.2.2.2.2.2.2.1
theorem dX11_wanders_125 : decode cX11_wanders 125 = .ok (.iload_n 1, 1) := gdX11_wanders_111.2.2.2.2.2.2.2.1
theorem dX11_wanders_126 : decode cX11_wanders 126 = .ok (.iload 5, 2) := gdX11_wanders_111.2.2.2.2.2.2.2.2.1
theorem dX11_wanders_128 : decode cX11_wanders 128 = .ok (.invokevirtual 323, 3) := gdX11_wanders_111.2.2.2.2.2.2.2.2.2.1
theorem dX11_wanders_131 : decode cX11_wanders 131 = .ok (.return_, 1) := gdX11_wanders_111.2.2.2.2.2.2.2.2.2.2
theorem gdX11_meetings_0 : (decode cX11_meetings 0 = .ok (.aload_n 0, 1)) ∧ (decode cX11_meetings 1 = .ok (.iload_n 1, 1)) ∧ (decode cX11_meetings 2 = .ok (.invokevirtual 316, 3)) ∧ (decode cX11_meetings 5 = .ok (.ifCond .eq 52, 3)) ∧ (decode cX11_meetings 8 = .ok (.aload_n 0, 1)) ∧ (decode cX11_meetings 9 = .ok (.iload_n 2, 1)) ∧ (decode cX11_meetings 10 = .ok (.invokevirtual 316, 3)) ∧ (decode cX11_meetings 13 = .ok (.ifCond .eq 44, 3)) ∧ (decode cX11_meetings 16 = .ok (.iload_n 1, 1)) ∧ (decode cX11_meetings 17 = .ok (.iload_n 2, 1)) ∧ (decode cX11_meetings 18 = .ok (.if_icmp .eq 39, 3)) ∧ (decode cX11_meetings 21 = .ok (.iload_n 3, 1)) ∧ (decode cX11_meetings 22 = .ok (.i2l, 1)) ∧ (decode cX11_meetings 23 = .ok (.lconst 1, 1)) ∧ (decode cX11_meetings 24 = .ok (.ldc2_w 436, 3)) ∧ (decode cX11_meetings 27 = .ok (.invokestatic 131, 3)) := by decide +kernel
theorem dX11_meetings_0 : decode cX11_meetings 0 = .ok (.aload_n 0, 1) := gdX11_meetings_0.1
theorem dX11_meetings_1 : decode cX11_meetings 1 = .ok (.iload_n 1, 1) := gdX11_meetings_0.2.1
theorem dX11_meetings_2 : decode cX11_meetings 2 = .ok (.invokevirtual 316, 3) := gdX11_meetings_0.2.2.1
theorem dX11_meetings_5 : decode cX11_meetings 5 = .ok (.ifCond .eq 52, 3) := gdX11_meetings_0.2.2.2.1
theorem dX11_meetings_8 : decode cX11_meetings 8 = .ok (.aload_n 0, 1) := gdX11_meetings_0.2.2.2.2.1
theorem dX11_meetings_9 : decode cX11_meetings 9 = .ok (.iload_n 2, 1) := gdX11_meetings_0.2.2.2.2.2.1
theorem dX11_meetings_10 : decode cX11_meetings 10 = .ok (.invokevirtual 316, 3) := gdX11_meetings_0.2.2.2.2.2.2.1
theorem dX11_meetings_13 : decode cX11_meetings 13 = .ok (.ifCond .eq 44, 3) := gdX11_meetings_0.2.2.2.2.2.2.2.1
theorem dX11_meetings_16 : decode cX11_meetings 16 = .ok (.iload_n 1, 1) := gdX11_meetings_0.2.2.2.2.2.2.2.2.1
theorem dX11_meetings_17 : decode cX11_meetings 17 = .ok (.iload_n 2, 1) := gdX11_meetings_0.2.2.2.2.2.2.2.2.2.1
theorem dX11_meetings_18 : decode cX11_meetings 18 = .ok (.if_icmp .eq 39, 3) := gdX11_meetings_0.2.2.2.2.2.2.2.2.2.2.1
theorem dX11_meetings_21 : decode cX11_meetings 21 = .ok (.iload_n 3, 1) := gdX11_meetings_0.2.2.2.2.2.2.2.2.2.2.2.1
theorem dX11_meetings_22 : decode cX11_meetings 22 = .ok (.i2l, 1) := gdX11_meetings_0.2.2.2.2.2.2.2.2.2.2.2.2.1
theorem dX11_meetings_23 : decode cX11_meetings 23 = .ok (.lconst 1, 1) := gdX11_meetings_0.2.2.2.2.2.2.2.2.2.2.2.2.2.1
theorem dX11_meetings_24 : decode cX11_meetings 24 = .ok (.ldc2_w 436, 3) := gdX11_meetings_0.2.2.2.2.2.2.2.2.2.2.2.2.2.2.1
theorem dX11_meetings_27 : decode cX11_meetings 27 = .ok (.invokestatic 131, 3) := gdX11_meetings_0.2.2.2.2.2.2.2.2.2.2.2.2.2.2.2
theorem gdX11_meetings_30 : (decode cX11_meetings 30 = .ok (.ifCond .eq 27, 3)) ∧ (decode cX11_meetings 33 = .ok (.iload 4, 2)) ∧ (decode cX11_meetings 35 = .ok (.i2l, 1)) ∧ (decode cX11_meetings 36 = .ok (.lconst 1, 1)) ∧ (decode cX11_meetings 37 = .ok (.ldc2_w 352, 3)) ∧ (decode cX11_meetings 40 = .ok (.invokestatic 131, 3)) ∧ (decode cX11_meetings 43 = .ok (.ifCond .eq 14, 3)) ∧ (decode cX11_meetings 46 = .ok (.iload 5, 2)) ∧ (decode cX11_meetings 48 = .ok (.i2l, 1)) ∧ (decode cX11_meetings 49 = .ok (.lconst 0, 1)) ∧ (decode cX11_meetings 50 = .ok (.lconst 1, 1)) ∧ (decode cX11_meetings 51 = .ok (.invokestatic 131, 3)) ∧ (decode cX11_meetings 54 = .ok (.ifCond .ne 5, 3)) ∧ (decode cX11_meetings 57 = .ok (.iconst (-1), 1)) ∧ (decode cX11_meetings 58 = .ok (.ireturn, 1)) ∧ (decode cX11_meetings 59 = .ok (.aload_n 0, 1)) := by decide +kernel
theorem dX11_meetings_30 : decode cX11_meetings 30 = .ok (.ifCond .eq 27, 3) := gdX11_meetings_30.1
theorem dX11_meetings_33 : decode cX11_meetings 33 = .ok (.iload 4, 2) := gdX11_meetings_30.2.1
theorem dX11_meetings_35 : decode cX11_meetings 35 = .ok (.i2l, 1) := gdX11_meetings_30.2.2.1
theorem dX11_meetings_36 : decode cX11_meetings 36 = .ok (.lconst 1, 1) := gdX11_meetings_30.2.2.2.1
theorem dX11_meetings_37 : decode cX11_meetings 37 = .ok (.ldc2_w 352, 3) := gdX11_meetings_30.2.2.2.2.1
theorem dX11_meetings_40 : decode cX11_meetings 40 = .ok (.invokestatic 131, 3) := gdX11_meetings_30.2.2.2.2.2.1
theorem dX11_meetings_43 : decode cX11_meetings 43 = .ok (.ifCond .eq 14, 3) := gdX11_meetings_30.2.2.2.2.2.2.1
theorem dX11_meetings_46 : decode cX11_meetings 46 = .ok (.iload 5, 2) := gdX11_meetings_30.2.2.2.2.2.2.2.1
theorem dX11_meetings_48 : decode cX11_meetings 48 = .ok (.i2l, 1) := gdX11_meetings_30.2.2.2.2.2.2.2.2.1
theorem dX11_meetings_49 : decode cX11_meetings 49 = .ok (.lconst 0, 1) := gdX11_meetings_30.2.2.2.2.2.2.2.2.2.1
theorem dX11_meetings_50 : decode cX11_meetings 50 = .ok (.lconst 1, 1) := gdX11_meetings_30.2.2.2.2.2.2.2.2.2.2.1
theorem dX11_meetings_51 : decode cX11_meetings 51 = .ok (.invokestatic 131, 3) := gdX11_meetings_30.2.2.2.2.2.2.2.2.2.2.2.1
theorem dX11_meetings_54 : decode cX11_meetings 54 = .ok (.ifCond .ne 5, 3) := gdX11_meetings_30.2.2.2.2.2.2.2.2.2.2.2.2.1
theorem dX11_meetings_57 : decode cX11_meetings 57 = .ok (.iconst (-1), 1) := gdX11_meetings_30.2.2.2.2.2.2.2.2.2.2.2.2.2.1
theorem dX11_meetings_58 : decode cX11_meetings 58 = .ok (.ireturn, 1) := gdX11_meetings_30.2.2.2.2.2.2.2.2.2.2.2.2.2.2.1
theorem dX11_meetings_59 : decode cX11_meetings 59 = .ok (.aload_n 0, 1) := gdX11_meetings_30.2.2.2.2.2.2.2.2.2.2.2.2.2.2.2
theorem gdX11_meetings_60 : (decode cX11_meetings 60 = .ok (.invokevirtual 357, 3)) ∧ (decode cX11_meetings 63 = .ok (.aload_n 0, 1)) ∧ (decode cX11_meetings 64 = .ok (.aload_n 0, 1)) ∧ (decode cX11_meetings 65 = .ok (.getfield 45, 3)) ∧ (decode cX11_meetings 68 = .ok (.iconst 5, 1)) ∧ (decode cX11_meetings 69 = .ok (.iaload, 1)) ∧ (decode cX11_meetings 70 = .ok (.i2l, 1)) ∧ (decode cX11_meetings 71 = .ok (.putfield 421, 3)) ∧ (decode cX11_meetings 74 = .ok (.iconst 0, 1)) ∧ (decode cX11_meetings 75 = .ok (.istore 6, 2)) ∧ (decode cX11_meetings 77 = .ok (.iconst 0, 1)) ∧ (decode cX11_meetings 78 = .ok (.istore 7, 2)) ∧ (decode cX11_meetings 80 = .ok (.iconst 0, 1)) ∧ (decode cX11_meetings 81 = .ok (.istore 8, 2)) ∧ (decode cX11_meetings 83 = .ok (.iload 8, 2)) ∧ (decode cX11_meetings 85 = .ok (.iload_n 3, 1)) := by decide +kernel
theorem dX11_meetings_60 : decode cX11_meetings 60 = .ok (.invokevirtual 357, 3) := gdX11_meetings_60.1
theorem dX11_meetings_63 : decode cX11_meetings 63 = .ok (.aload_n 0, 1) := gdX11_meetings_60.2.1
theorem dX11_meetings_64 : decode cX11_meetings 64 = .ok (.aload_n 0, 1) := gdX11_meetings_60.2.2.1
theorem dX11_meetings_65 : decode cX11_meetings 65 = .ok (.getfield 45, 3) := gdX11_meetings_60.2.2.2.1
theorem dX11_meetings_68 : decode cX11_meetings 68 = .ok (.iconst 5, 1) := gdX11_meetings_60.2.2.2.2.1
theorem dX11_meetings_69 : decode cX11_meetings 69 = .ok (.iaload, 1) := gdX11_meetings_60.2.2.2.2.2.1
theorem dX11_meetings_70 : decode cX11_meetings 70 = .ok (.i2l, 1) := gdX11_meetings_60.2.2.2.2.2.2.1
theorem dX11_meetings_71 : decode cX11_meetings 71 = .ok (.putfield 421, 3) := gdX11_meetings_60.2.2.2.2.2.2.2.1
theorem dX11_meetings_74 : decode cX11_meetings 74 = .ok (.iconst 0, 1) := gdX11_meetings_60.2.2.2.2.2.2.2.2.1
theorem dX11_meetings_75 : decode cX11_meetings 75 = .ok (.istore 6, 2) := gdX11_meetings_60.2.2.2.2.2.2.2.2.2.1
theorem dX11_meetings_77 : decode cX11_meetings 77 = .ok (.iconst 0, 1) := gdX11_meetings_60.2.2.2.2.2.2.2.2.2.2.1
theorem dX11_meetings_78 : decode cX11_meetings 78 = .ok (.istore 7, 2) := gdX11_meetings_60.2.2.2.2.2.2.2.2.2.2.2.1
theorem dX11_meetings_80 : decode cX11_meetings 80 = .ok (.iconst 0, 1) := gdX11_meetings_60.2.2.2.2.2.2.2.2.2.2.2.2.1
theorem dX11_meetings_81 : decode cX11_meetings 81 = .ok (.istore 8, 2) := gdX11_meetings_60.2.2.2.2.2.2.2.2.2.2.2.2.2.1
theorem dX11_meetings_83 : decode cX11_meetings 83 = .ok (.iload 8, 2) := gdX11_meetings_60.2.2.2.2.2.2.2.2.2.2.2.2.2.2.1
theorem dX11_meetings_85 : decode cX11_meetings 85 = .ok (.iload_n 3, 1) := gdX11_meetings_60.2.2.2.2.2.2.2.2.2.2.2.2.2.2.2
theorem gdX11_meetings_86 : (decode cX11_meetings 86 = .ok (.if_icmp .ge 118, 3)) ∧ (decode cX11_meetings 89 = .ok (.iconst 0, 1)) ∧ (decode cX11_meetings 90 = .ok (.istore 9, 2)) ∧ (decode cX11_meetings 92 = .ok (.iconst 0, 1)) ∧ (decode cX11_meetings 93 = .ok (.istore 10, 2)) ∧ (decode cX11_meetings 95 = .ok (.iload 10, 2)) ∧ (decode cX11_meetings 97 = .ok (.iload 4, 2)) ∧ (decode cX11_meetings 99 = .ok (.if_icmp .ge 73, 3)) ∧ (decode cX11_meetings 102 = .ok (.iconst 0, 1)) ∧ (decode cX11_meetings 103 = .ok (.istore 11, 2)) ∧ (decode cX11_meetings 105 = .ok (.iload 11, 2)) ∧ (decode cX11_meetings 107 = .ok (.aload_n 0, 1)) ∧ (decode cX11_meetings 108 = .ok (.getfield 45, 3)) ∧ (decode cX11_meetings 111 = .ok (.iconst 2, 1)) ∧ (decode cX11_meetings 112 = .ok (.iaload, 1)) ∧ (decode cX11_meetings 113 = .ok (.if_icmp .ge 15, 3)) := by decide +kernel
theorem dX11_meetings_86 : decode cX11_meetings 86 = .ok (.if_icmp .ge 118, 3) := gdX11_meetings_86.1
theorem dX11_meetings_89 : decode cX11_meetings 89 = .ok (.iconst 0, 1) := gdX11_meetings_86.2.1
theorem dX11_meetings_90 : decode cX11_meetings 90 = .ok (.istore 9, 2) := gdX11_meetings_86.2.2.1
theorem dX11_meetings_92 : decode cX11_meetings 92 = .ok (.iconst 0, 1) := gdX11_meetings_86.2.2.2.1
theorem dX11_meetings_93 : decode cX11_meetings 93 = .ok (.istore 10, 2) := gdX11_meetings_86.2.2.2.2.1
theorem dX11_meetings_95 : decode cX11_meetings 95 = .ok (.iload 10, 2) := gdX11_meetings_86.2.2.2.2.2.1
theorem dX11_meetings_97 : decode cX11_meetings 97 = .ok (.iload 4, 2) := gdX11_meetings_86.2.2.2.2.2.2.1
theorem dX11_meetings_99 : decode cX11_meetings 99 = .ok (.if_icmp .ge 73, 3) := gdX11_meetings_86.2.2.2.2.2.2.2.1
theorem dX11_meetings_102 : decode cX11_meetings 102 = .ok (.iconst 0, 1) := gdX11_meetings_86.2.2.2.2.2.2.2.2.1
theorem dX11_meetings_103 : decode cX11_meetings 103 = .ok (.istore 11, 2) := gdX11_meetings_86.2.2.2.2.2.2.2.2.2.1
theorem dX11_meetings_105 : decode cX11_meetings 105 = .ok (.iload 11, 2) := gdX11_meetings_86.2.2.2.2.2.2.2.2.2.2.1
theorem dX11_meetings_107 : decode cX11_meetings 107 = .ok (.aload_n 0, 1) := gdX11_meetings_86.2.2.2.2.2.2.2.2.2.2.2.1
theorem dX11_meetings_108 : decode cX11_meetings 108 = .ok (.getfield 45, 3) := gdX11_meetings_86.2.2.2.2.2.2.2.2.2.2.2.2.1
theorem dX11_meetings_111 : decode cX11_meetings 111 = .ok (.iconst 2, 1) := gdX11_meetings_86.2.2.2.2.2.2.2.2.2.2.2.2.2.1
theorem dX11_meetings_112 : decode cX11_meetings 112 = .ok (.iaload, 1) := gdX11_meetings_86.2.2.2.2.2.2.2.2.2.2.2.2.2.2.1
theorem dX11_meetings_113 : decode cX11_meetings 113 = .ok (.if_icmp .ge 15, 3) := gdX11_meetings_86.2.2.2.2.2.2.2.2.2.2.2.2.2.2.2
theorem gdX11_meetings_116 : (decode cX11_meetings 116 = .ok (.aload_n 0, 1)) ∧ (decode cX11_meetings 117 = .ok (.iload 11, 2)) ∧ (decode cX11_meetings 119 = .ok (.invokevirtual 438, 3)) ∧ (decode cX11_meetings 122 = .ok (.iinc 11 1, 3)) ∧ (decode cX11_meetings 125 = .ok (.goto (-20), 3)) ∧ (decode cX11_meetings 128 = .ok (.aload_n 0, 1)) ∧ (decode cX11_meetings 129 = .ok (.invokevirtual 346, 3)) ∧ (decode cX11_meetings 132 = .ok (.iload 9, 2)) ∧ (decode cX11_meetings 134 = .ok (.aload_n 0, 1)) ∧ (decode cX11_meetings 135 = .ok (.iload_n 1, 1)) ∧ (decode cX11_meetings 136 = .ok (.iconst 0, 1)) ∧ (decode cX11_meetings 137 = .ok (.invokevirtual 296, 3)) ∧ (decode cX11_meetings 140 = .ok (.ifCond .lt 22, 3)) ∧ (decode cX11_meetings 143 = .ok (.aload_n 0, 1)) ∧ (decode cX11_meetings 144 = .ok (.iload_n 1, 1)) ∧ (decode cX11_meetings 145 = .ok (.iconst 0, 1)) := by decide +kernel
theorem dX11_meetings_116 : decode cX11_meetings 116 = .ok (.aload_n 0, 1) := gdX11_meetings_116.1
theorem dX11_meetings_117 : decode cX11_meetings 117 = .ok (.iload 11, 2) := gdX11_meetings_116.2.1
theorem dX11_meetings_119 : decode cX11_meetings 119 = .ok (.invokevirtual 438, 3) := gdX11_meetings_116.2.2.1
theorem dX11_meetings_122 : decode cX11_meetings 122 = .ok (.iinc 11 1, 3) := gdX11_meetings_116.2.2.2.1
theorem dX11_meetings_125 : decode cX11_meetings 125 = .ok (.goto (-20), 3) := gdX11_meetings_116.2.2.2.2.1
theorem dX11_meetings_128 : decode cX11_meetings 128 = .ok (.aload_n 0, 1) := gdX11_meetings_116.2.2.2.2.2.1
theorem dX11_meetings_129 : decode cX11_meetings 129 = .ok (.invokevirtual 346, 3) := gdX11_meetings_116.2.2.2.2.2.2.1
theorem dX11_meetings_132 : decode cX11_meetings 132 = .ok (.iload 9, 2) := gdX11_meetings_116.2.2.2.2.2.2.2.1
theorem dX11_meetings_134 : decode cX11_meetings 134 = .ok (.aload_n 0, 1) := gdX11_meetings_116.2.2.2.2.2.2.2.2.1
theorem dX11_meetings_135 : decode cX11_meetings 135 = .ok (.iload_n 1, 1) := gdX11_meetings_116.2.2.2.2.2.2.2.2.2.1
theorem dX11_meetings_136 : decode cX11_meetings 136 = .ok (.iconst 0, 1) := gdX11_meetings_116.2.2.2.2.2.2.2.2.2.2.1
theorem dX11_meetings_137 : decode cX11_meetings 137 = .ok (.invokevirtual 296, 3) := gdX11_meetings_116.2.2.2.2.2.2.2.2.2.2.2.1
theorem dX11_meetings_140 : decode cX11_meetings 140 = .ok (.ifCond .lt 22, 3) := gdX11_meetings_116.2.2.2.2.2.2.2.2.2.2.2.2.1
theorem dX11_meetings_143 : decode cX11_meetings 143 = .ok (.aload_n 0, 1) := gdX11_meetings_116.2.2.2.2.2.2.2.2.2.2.2.2.2.1
theorem dX11_meetings_144 : decode cX11_meetings 144 = .ok (.iload_n 1, 1) := gdX11_meetings_116.2.2.2.2.2.2.2.2.2.2.2.2.2.2.1
theorem dX11_meetings_145 : decode cX11_meetings 145 = .ok (.iconst 0, 1) := gdX11_meetings_116.2.2.2.2.2.2.2.2.2.2.2.2.2.2.2
theorem gdX11_meetings_146 : (decode cX11_meetings 146 = .ok (.invokevirtual 296, 3)) ∧ (decode cX11_meetings 149 = .ok (.aload_n 0, 1)) ∧ (decode cX11_meetings 150 = .ok (.iload_n 2, 1)) ∧ (decode cX11_meetings 151 = .ok (.iconst 0, 1)) ∧ (decode cX11_meetings 152 = .ok (.invokevirtual 296, 3)) ∧ (decode cX11_meetings 155 = .ok (.if_icmp .ne 7, 3)) ∧ (decode cX11_meetings 158 = .ok (.iconst 1, 1)) ∧ (decode cX11_meetings 159 = .ok (.goto 4, 3)) ∧ (decode cX11_meetings 162 = .ok (.iconst 0, 1)) ∧ (decode cX11_meetings 163 = .ok (.iadd, 1)) ∧ (decode cX11_meetings 164 = .ok (.istore 9, 2)) ∧ (decode cX11_meetings 166 = .ok (.iinc 10 1, 3)) ∧ (decode cX11_meetings 169 = .ok (.goto (-74), 3)) ∧ (decode cX11_meetings 172 = .ok (.iload 6, 2)) ∧ (decode cX11_meetings 174 = .ok (.iload 9, 2)) ∧ (decode cX11_meetings 176 = .ok (.iadd, 1)) := by decide +kernel
theorem dX11_meetings_146 : decode cX11_meetings 146 = .ok (.invokevirtual 296, 3) := gdX11_meetings_146.1
theorem dX11_meetings_149 : decode cX11_meetings 149 = .ok (.aload_n 0, 1) := gdX11_meetings_146.2.1
theorem dX11_meetings_150 : decode cX11_meetings 150 = .ok (.iload_n 2, 1) := gdX11_meetings_146.2.2.1
theorem dX11_meetings_151 : decode cX11_meetings 151 = .ok (.iconst 0, 1) := gdX11_meetings_146.2.2.2.1
theorem dX11_meetings_152 : decode cX11_meetings 152 = .ok (.invokevirtual 296, 3) := gdX11_meetings_146.2.2.2.2.1
theorem dX11_meetings_155 : decode cX11_meetings 155 = .ok (.if_icmp .ne 7, 3) := gdX11_meetings_146.2.2.2.2.2.1
theorem dX11_meetings_158 : decode cX11_meetings 158 = .ok (.iconst 1, 1) := gdX11_meetings_146.2.2.2.2.2.2.1
theorem dX11_meetings_159 : decode cX11_meetings 159 = .ok (.goto 4, 3) := gdX11_meetings_146.2.2.2.2.2.2.2.1
theorem dX11_meetings_162 : decode cX11_meetings 162 = .ok (.iconst 0, 1) := gdX11_meetings_146.2.2.2.2.2.2.2.2.1
theorem dX11_meetings_163 : decode cX11_meetings 163 = .ok (.iadd, 1) := gdX11_meetings_146.2.2.2.2.2.2.2.2.2.1
theorem dX11_meetings_164 : decode cX11_meetings 164 = .ok (.istore 9, 2) := gdX11_meetings_146.2.2.2.2.2.2.2.2.2.2.1
theorem dX11_meetings_166 : decode cX11_meetings 166 = .ok (.iinc 10 1, 3) := gdX11_meetings_146.2.2.2.2.2.2.2.2.2.2.2.1
theorem dX11_meetings_169 : decode cX11_meetings 169 = .ok (.goto (-74), 3) := gdX11_meetings_146.2.2.2.2.2.2.2.2.2.2.2.2.1
theorem dX11_meetings_172 : decode cX11_meetings 172 = .ok (.iload 6, 2) := gdX11_meetings_146.2.2.2.2.2.2.2.2.2.2.2.2.2.1
theorem dX11_meetings_174 : decode cX11_meetings 174 = .ok (.iload 9, 2) := gdX11_meetings_146.2.2.2.2.2.2.2.2.2.2.2.2.2.2.1
theorem dX11_meetings_176 : decode cX11_meetings 176 = .ok (.iadd, 1) := gdX11_meetings_146.2.2.2.2.2.2.2.2.2.2.2.2.2.2.2
theorem gdX11_meetings_177 : (decode cX11_meetings 177 = .ok (.istore 6, 2)) ∧ (decode cX11_meetings 179 = .ok (.iload 7, 2)) ∧ (decode cX11_meetings 181 = .ok (.iload 9, 2)) ∧ (decode cX11_meetings 183 = .ok (.ifCond .le 7, 3)) ∧ (decode cX11_meetings 186 = .ok (.iconst 1, 1)) ∧ (decode cX11_meetings 187 = .ok (.goto 4, 3)) ∧ (decode cX11_meetings 190 = .ok (.iconst 0, 1)) ∧ (decode cX11_meetings 191 = .ok (.iadd, 1)) ∧ (decode cX11_meetings 192 = .ok (.istore 7, 2)) ∧ (decode cX11_meetings 194 = .ok (.aload_n 0, 1)) ∧ (decode cX11_meetings 195 = .ok (.invokevirtual 362, 3)) ∧ (decode cX11_meetings 198 = .ok (.iinc 8 1, 3)) ∧ (decode cX11_meetings 201 = .ok (.goto (-118), 3)) ∧ (decode cX11_meetings 204 = .ok (.iload 5, 2)) ∧ (decode cX11_meetings 206 = .ok (.ifCond .ne 8, 3)) ∧ (decode cX11_meetings 209 = .ok (.iload 6, 2)) := by decide +kernel
theorem dX11_meetings_177 : decode cX11_meetings 177 = .ok (.istore 6, 2) := gdX11_meetings_177.1
theorem dX11_meetings_179 : decode cX11_meetings 179 = .ok (.iload 7, 2) := gdX11_meetings_177.2.1
theorem dX11_meetings_181 : decode cX11_meetings 181 = .ok (.iload 9, 2) := gdX11_meetings_177.2.2.1
theorem dX11_meetings_183 : decode cX11_meetings 183 = .ok (.ifCond .le 7, 3) := gdX11_meetings_177.2.2.2.1
theorem dX11_meetings_186 : decode cX11_meetings 186 = .ok (.iconst 1, 1) := gdX11_meetings_177.2.2.2.2.1
theorem dX11_meetings_187 : decode cX11_meetings 187 = .ok (.goto 4, 3) := gdX11_meetings_177.2.2.2.2.2.1
theorem dX11_meetings_190 : decode cX11_meetings 190 = .ok (.iconst 0, 1) := gdX11_meetings_177.2.2.2.2.2.2.1
theorem dX11_meetings_191 : decode cX11_meetings 191 = .ok (.iadd, 1) := gdX11_meetings_177.2.2.2.2.2.2.2.1
theorem dX11_meetings_192 : decode cX11_meetings 192 = .ok (.istore 7, 2) := gdX11_meetings_177.2.2.2.2.2.2.2.2.1
theorem dX11_meetings_194 : decode cX11_meetings 194 = .ok (.aload_n 0, 1) := gdX11_meetings_177.2.2.2.2.2.2.2.2.2.1
theorem dX11_meetings_195 : decode cX11_meetings 195 = .ok (.invokevirtual 362, 3) := gdX11_meetings_177.2.2.2.2.2.2.2.2.2.2.1
theorem dX11_meetings_198 : decode cX11_meetings 198 = .ok (.iinc 8 1, 3) := gdX11_meetings_177.2.2.2.2.2.2.2.2.2.2.2.1
theorem dX11_meetings_201 : decode cX11_meetings 201 = .ok (.goto (-118), 3) := gdX11_meetings_177.2.2.2.2.2.2.2.2.2.2.2.2.1
theorem dX11_meetings_204 : decode cX11_meetings 204 = .ok (.iload 5, 2) := gdX11_meetings_177.2.2.2.2.2.2.2.2.2.2.2.2.2.1
theorem dX11_meetings_206 : decode cX11_meetings 206 = .ok (.ifCond .ne 8, 3) := gdX11_meetings_177.2.2.2.2.2.2.2.2.2.2.2.2.2.2.1
theorem dX11_meetings_209 : decode cX11_meetings 209 = .ok (.iload 6, 2) := gdX11_meetings_177.2.2.2.2.2.2.2.2.2.2.2.2.2.2.2
theorem gdX11_meetings_211 : (decode cX11_meetings 211 = .ok (.goto 5, 3)) ∧ (decode cX11_meetings 214 = .ok (.iload 7, 2)) ∧ (decode cX11_meetings 216 = .ok (.ireturn, 1)) := by decide +kernel
theorem dX11_meetings_211 : decode cX11_meetings 211 = .ok (.goto 5, 3) := gdX11_meetings_211.1
theorem dX11_meetings_214 : decode cX11_meetings 214 = .ok (.iload 7, 2) := gdX11_meetings_211.2.1
theorem dX11_meetings_216 : decode cX11_meetings 216 = .ok (.ireturn, 1) := gdX11_meetings_211.2.2
theorem gdX11_count_0 : (decode cX11_count 0 = .ok (.iconst 0, 1)) ∧ (decode cX11_count 1 = .ok (.istore_n 2, 1)) ∧ (decode cX11_count 2 = .ok (.iload_n 1, 1)) ∧ (decode cX11_count 3 = .ok (.tableswitch 159 0 9 #[53, 53, 53, 60, 65, 65, 74, 110, 147, 154], 53)) ∧ (decode cX11_count 56 = .ok (.aload_n 0, 1)) ∧ (decode cX11_count 57 = .ok (.getfield 45, 3)) ∧ (decode cX11_count 60 = .ok (.iload_n 1, 1)) ∧ (decode cX11_count 61 = .ok (.iaload, 1)) ∧ (decode cX11_count 62 = .ok (.ireturn, 1)) ∧ (decode cX11_count 63 = .ok (.aload_n 0, 1)) ∧ (decode cX11_count 64 = .ok (.getfield 254, 3)) ∧ (decode cX11_count 67 = .ok (.ireturn, 1)) ∧ (decode cX11_count 68 = .ok (.aload_n 0, 1)) ∧ (decode cX11_count 69 = .ok (.getfield 45, 3)) ∧ (decode cX11_count 72 = .ok (.iload_n 1, 1)) ∧ (decode cX11_count 73 = .ok (.iconst 1, 1)) := by decide +kernel
theorem dX11_count_0 : decode cX11_count 0 = .ok (.iconst 0, 1) := gdX11_count_0.1
theorem dX11_count_1 : decode cX11_count 1 = .ok (.istore_n 2, 1) := gdX11_count_0.2.1
theorem dX11_count_2 : decode cX11_count 2 = .ok (.iload_n 1, 1) := gdX11_count_0.2.2.1
theorem dX11_count_3 : decode cX11_count 3 = .ok (.tableswitch 159 0 9 #[53, 53, 53, 60, 65, 65, 74, 110, 147, 154], 53) := gdX11_count_0.2.2.2.1
theorem dX11_count_56 : decode cX11_count 56 = .ok (.aload_n 0, 1) := gdX11_count_0.2.2.2.2.1
theorem dX11_count_57 : decode cX11_count 57 = .ok (.getfield 45, 3) := gdX11_count_0.2.2.2.2.2.1
theorem dX11_count_60 : decode cX11_count 60 = .ok (.iload_n 1, 1) := gdX11_count_0.2.2.2.2.2.2.1
theorem dX11_count_61 : decode cX11_count 61 = .ok (.iaload, 1) := gdX11_count_0.2.2.2.2.2.2.2.1
theorem dX11_count_62 : decode cX11_count 62 = .ok (.ireturn, 1) := gdX11_count_0.2.2.2.2.2.2.2.2.1
theorem dX11_count_63 : decode cX11_count 63 = .ok (.aload_n 0, 1) := gdX11_count_0.2.2.2.2.2.2.2.2.2.1
theorem dX11_count_64 : decode cX11_count 64 = .ok (.getfield 254, 3) := gdX11_count_0.2.2.2.2.2.2.2.2.2.2.1
theorem dX11_count_67 : decode cX11_count 67 = .ok (.ireturn, 1) := gdX11_count_0.2.2.2.2.2.2.2.2.2.2.2.1
theorem dX11_count_68 : decode cX11_count 68 = .ok (.aload_n 0, 1) := gdX11_count_0.2.2.2.2.2.2.2.2.2.2.2.2.1
theorem dX11_count_69 : decode cX11_count 69 = .ok (.getfield 45, 3) := gdX11_count_0.2.2.2.2.2.2.2.2.2.2.2.2.2.1
theorem dX11_count_72 : decode cX11_count 72 = .ok (.iload_n 1, 1) := gdX11_count_0.2.2.2.2.2.2.2.2.2.2.2.2.2.2.1
theorem dX11_count_73 : decode cX11_count 73 = .ok (.iconst 1, 1) := gdX11_count_0.2.2.2.2.2.2.2.2.2.2.2.2.2.2.2
theorem gdX11_count_74 : (decode cX11_count 74 = .ok (.isub, 1)) ∧ (decode cX11_count 75 = .ok (.iaload, 1)) ∧ (decode cX11_count 76 = .ok (.ireturn, 1)) ∧ (decode cX11_count 77 = .ok (.iconst 0, 1)) ∧ (decode cX11_count 78 = .ok (.istore_n 3, 1)) ∧ (decode cX11_count 79 = .ok (.iload_n 3, 1)) ∧ (decode cX11_count 80 = .ok (.aload_n 0, 1)) ∧ (decode cX11_count 81 = .ok (.getfield 45, 3)) ∧ (decode cX11_count 84 = .ok (.iconst 4, 1)) ∧ (decode cX11_count 85 = .ok (.iaload, 1)) ∧ (decode cX11_count 86 = .ok (.if_icmp .ge 25, 3)) ∧ (decode cX11_count 89 = .ok (.iload_n 2, 1)) ∧ (decode cX11_count 90 = .ok (.aload_n 0, 1)) ∧ (decode cX11_count 91 = .ok (.iload_n 3, 1)) ∧ (decode cX11_count 92 = .ok (.invokevirtual 415, 3)) ∧ (decode cX11_count 95 = .ok (.ifCond .eq 7, 3)) := by decide +kernel
theorem dX11_count_74 : decode cX11_count 74 = .ok (.isub, 1) := gdX11_count_74.1
theorem dX11_count_75 : decode cX11_count 75 = .ok (.iaload, 1) := gdX11_count_74.2.1
theorem dX11_count_76 : decode cX11_count 76 = .ok (.ireturn, 1) := gdX11_count_74.2.2.1
theorem dX11_count_77 : decode cX11_count 77 = .ok (.iconst 0, 1) := gdX11_count_74.2.2.2.1
theorem dX11_count_78 : decode cX11_count 78 = .ok (.istore_n 3, 1) := gdX11_count_74.2.2.2.2.1
theorem dX11_count_79 : decode cX11_count 79 = .ok (.iload_n 3, 1) := gdX11_count_74.2.2.2.2.2.1
theorem dX11_count_80 : decode cX11_count 80 = .ok (.aload_n 0, 1) := gdX11_count_74.2.2.2.2.2.2.1
theorem dX11_count_81 : decode cX11_count 81 = .ok (.getfield 45, 3) := gdX11_count_74.2.2.2.2.2.2.2.1
theorem dX11_count_84 : decode cX11_count 84 = .ok (.iconst 4, 1) := gdX11_count_74.2.2.2.2.2.2.2.2.1
theorem dX11_count_85 : decode cX11_count 85 = .ok (.iaload, 1) := gdX11_count_74.2.2.2.2.2.2.2.2.2.1
theorem dX11_count_86 : decode cX11_count 86 = .ok (.if_icmp .ge 25, 3) := gdX11_count_74.2.2.2.2.2.2.2.2.2.2.1
theorem dX11_count_89 : decode cX11_count 89 = .ok (.iload_n 2, 1) := gdX11_count_74.2.2.2.2.2.2.2.2.2.2.2.1
theorem dX11_count_90 : decode cX11_count 90 = .ok (.aload_n 0, 1) := gdX11_count_74.2.2.2.2.2.2.2.2.2.2.2.2.1
theorem dX11_count_91 : decode cX11_count 91 = .ok (.iload_n 3, 1) := gdX11_count_74.2.2.2.2.2.2.2.2.2.2.2.2.2.1
theorem dX11_count_92 : decode cX11_count 92 = .ok (.invokevirtual 415, 3) := gdX11_count_74.2.2.2.2.2.2.2.2.2.2.2.2.2.2.1
theorem dX11_count_95 : decode cX11_count 95 = .ok (.ifCond .eq 7, 3) := gdX11_count_74.2.2.2.2.2.2.2.2.2.2.2.2.2.2.2
theorem gdX11_count_98 : (decode cX11_count 98 = .ok (.iconst 1, 1)) ∧ (decode cX11_count 99 = .ok (.goto 4, 3)) ∧ (decode cX11_count 102 = .ok (.iconst 0, 1)) ∧ (decode cX11_count 103 = .ok (.iadd, 1)) ∧ (decode cX11_count 104 = .ok (.istore_n 2, 1)) ∧ (decode cX11_count 105 = .ok (.iinc 3 1, 3)) ∧ (decode cX11_count 108 = .ok (.goto (-29), 3)) ∧ (decode cX11_count 111 = .ok (.iload_n 2, 1)) ∧ (decode cX11_count 112 = .ok (.ireturn, 1)) ∧ (decode cX11_count 113 = .ok (.iconst 0, 1)) ∧ (decode cX11_count 114 = .ok (.istore_n 3, 1)) ∧ (decode cX11_count 115 = .ok (.iload_n 3, 1)) ∧ (decode cX11_count 116 = .ok (.aload_n 0, 1)) ∧ (decode cX11_count 117 = .ok (.getfield 45, 3)) ∧ (decode cX11_count 120 = .ok (.iconst 2, 1)) ∧ (decode cX11_count 121 = .ok (.iaload, 1)) := by decide +kernel
theorem dX11_count_98 : decode cX11_count 98 = .ok (.iconst 1, 1) := gdX11_count_98.1
theorem dX11_count_99 : decode cX11_count 99 = .ok (.goto 4, 3) := gdX11_count_98.2.1
theorem dX11_count_102 : decode cX11_count 102 = .ok (.iconst 0, 1) := gdX11_count_98.2.2.1
theorem dX11_count_103 : decode cX11_count 103 = .ok (.iadd, 1) := gdX11_count_98.2.2.2.1
theorem dX11_count_104 : decode cX11_count 104 = .ok (.istore_n 2, 1) := gdX11_count_98.2.2.2.2.1
theorem dX11_count_105 : decode cX11_count 105 = .ok (.iinc 3 1, 3) := gdX11_count_98.2.2.2.2.2.1
theorem dX11_count_108 : decode cX11_count 108 = .ok (.goto (-29), 3) := gdX11_count_98.2.2.2.2.2.2.1
theorem dX11_count_111 : decode cX11_count 111 = .ok (.iload_n 2, 1) := gdX11_count_98.2.2.2.2.2.2.2.1
theorem dX11_count_112 : decode cX11_count 112 = .ok (.ireturn, 1) := gdX11_count_98.2.2.2.2.2.2.2.2.1
theorem dX11_count_113 : decode cX11_count 113 = .ok (.iconst 0, 1) := gdX11_count_98.2.2.2.2.2.2.2.2.2.1
theorem dX11_count_114 : decode cX11_count 114 = .ok (.istore_n 3, 1) := gdX11_count_98.2.2.2.2.2.2.2.2.2.2.1
theorem dX11_count_115 : decode cX11_count 115 = .ok (.iload_n 3, 1) := gdX11_count_98.2.2.2.2.2.2.2.2.2.2.2.1
theorem dX11_count_116 : decode cX11_count 116 = .ok (.aload_n 0, 1) := gdX11_count_98.2.2.2.2.2.2.2.2.2.2.2.2.1
theorem dX11_count_117 : decode cX11_count 117 = .ok (.getfield 45, 3) := gdX11_count_98.2.2.2.2.2.2.2.2.2.2.2.2.2.1
theorem dX11_count_120 : decode cX11_count 120 = .ok (.iconst 2, 1) := gdX11_count_98.2.2.2.2.2.2.2.2.2.2.2.2.2.2.1
theorem dX11_count_121 : decode cX11_count 121 = .ok (.iaload, 1) := gdX11_count_98.2.2.2.2.2.2.2.2.2.2.2.2.2.2.2
theorem gdX11_count_122 : (decode cX11_count 122 = .ok (.if_icmp .ge 26, 3)) ∧ (decode cX11_count 125 = .ok (.iload_n 2, 1)) ∧ (decode cX11_count 126 = .ok (.aload_n 0, 1)) ∧ (decode cX11_count 127 = .ok (.iload_n 3, 1)) ∧ (decode cX11_count 128 = .ok (.iconst 0, 1)) ∧ (decode cX11_count 129 = .ok (.invokevirtual 296, 3)) ∧ (decode cX11_count 132 = .ok (.ifCond .ge 7, 3)) ∧ (decode cX11_count 135 = .ok (.iconst 1, 1)) ∧ (decode cX11_count 136 = .ok (.goto 4, 3)) ∧ (decode cX11_count 139 = .ok (.iconst 0, 1)) ∧ (decode cX11_count 140 = .ok (.iadd, 1)) ∧ (decode cX11_count 141 = .ok (.istore_n 2, 1)) ∧ (decode cX11_count 142 = .ok (.iinc 3 1, 3)) ∧ (decode cX11_count 145 = .ok (.goto (-30), 3)) ∧ (decode cX11_count 148 = .ok (.iload_n 2, 1)) ∧ (decode cX11_count 149 = .ok (.ireturn, 1)) := by decide +kernel
theorem dX11_count_122 : decode cX11_count 122 = .ok (.if_icmp .ge 26, 3) := gdX11_count_122.1
theorem dX11_count_125 : decode cX11_count 125 = .ok (.iload_n 2, 1) := gdX11_count_122.2.1
theorem dX11_count_126 : decode cX11_count 126 = .ok (.aload_n 0, 1) := gdX11_count_122.2.2.1
theorem dX11_count_127 : decode cX11_count 127 = .ok (.iload_n 3, 1) := gdX11_count_122.2.2.2.1
theorem dX11_count_128 : decode cX11_count 128 = .ok (.iconst 0, 1) := gdX11_count_122.2.2.2.2.1
theorem dX11_count_129 : decode cX11_count 129 = .ok (.invokevirtual 296, 3) := gdX11_count_122.2.2.2.2.2.1
theorem dX11_count_132 : decode cX11_count 132 = .ok (.ifCond .ge 7, 3) := gdX11_count_122.2.2.2.2.2.2.1
theorem dX11_count_135 : decode cX11_count 135 = .ok (.iconst 1, 1) := gdX11_count_122.2.2.2.2.2.2.2.1
theorem dX11_count_136 : decode cX11_count 136 = .ok (.goto 4, 3) := gdX11_count_122.2.2.2.2.2.2.2.2.1
theorem dX11_count_139 : decode cX11_count 139 = .ok (.iconst 0, 1) := gdX11_count_122.2.2.2.2.2.2.2.2.2.1
theorem dX11_count_140 : decode cX11_count 140 = .ok (.iadd, 1) := gdX11_count_122.2.2.2.2.2.2.2.2.2.2.1
theorem dX11_count_141 : decode cX11_count 141 = .ok (.istore_n 2, 1) := gdX11_count_122.2.2.2.2.2.2.2.2.2.2.2.1
theorem dX11_count_142 : decode cX11_count 142 = .ok (.iinc 3 1, 3) := gdX11_count_122.2.2.2.2.2.2.2.2.2.2.2.2.1
theorem dX11_count_145 : decode cX11_count 145 = .ok (.goto (-30), 3) := gdX11_count_122.2.2.2.2.2.2.2.2.2.2.2.2.2.1
theorem dX11_count_148 : decode cX11_count 148 = .ok (.iload_n 2, 1) := gdX11_count_122.2.2.2.2.2.2.2.2.2.2.2.2.2.2.1
theorem dX11_count_149 : decode cX11_count 149 = .ok (.ireturn, 1) := gdX11_count_122.2.2.2.2.2.2.2.2.2.2.2.2.2.2.2
theorem gdX11_count_150 : (decode cX11_count 150 = .ok (.aload_n 0, 1)) ∧ (decode cX11_count 151 = .ok (.getfield 45, 3)) ∧ (decode cX11_count 154 = .ok (.iconst 5, 1)) ∧ (decode cX11_count 155 = .ok (.iaload, 1)) ∧ (decode cX11_count 156 = .ok (.ireturn, 1)) ∧ (decode cX11_count 157 = .ok (.aload_n 0, 1)) ∧ (decode cX11_count 158 = .ok (.getfield 92, 3)) ∧ (decode cX11_count 161 = .ok (.ireturn, 1)) ∧ (decode cX11_count 162 = .ok (.iconst (-1), 1)) ∧ (decode cX11_count 163 = .ok (.ireturn, 1)) := by decide +kernel
theorem dX11_count_150 : decode cX11_count 150 = .ok (.aload_n 0, 1) := gdX11_count_150.1
theorem dX11_count_151 : decode cX11_count 151 = .ok (.getfield 45, 3) := gdX11_count_150.2.1
theorem dX11_count_154 : decode cX11_count 154 = .ok (.iconst 5, 1) := gdX11_count_150.2.2.1
theorem dX11_count_155 : decode cX11_count 155 = .ok (.iaload, 1) := gdX11_count_150.2.2.2.1
theorem dX11_count_156 : decode cX11_count 156 = .ok (.ireturn, 1) := gdX11_count_150.2.2.2.2.1
theorem dX11_count_157 : decode cX11_count 157 = .ok (.aload_n 0, 1) := gdX11_count_150.2.2.2.2.2.1
theorem dX11_count_158 : decode cX11_count 158 = .ok (.getfield 92, 3) := gdX11_count_150.2.2.2.2.2.2.1
theorem dX11_count_161 : decode cX11_count 161 = .ok (.ireturn, 1) := gdX11_count_150.2.2.2.2.2.2.2.1
theorem dX11_count_162 : decode cX11_count 162 = .ok (.iconst (-1), 1) := gdX11_count_150.2.2.2.2.2.2.2.2.1
theorem dX11_count_163 : decode cX11_count 163 = .ok (.ireturn, 1) := gdX11_count_150.2.2.2.2.2.2.2.2.2
theorem gdX11_image_0 : (decode cX11_image 0 = .ok (.iload_n 1, 1)) ∧ (decode cX11_image 1 = .ok (.i2l, 1)) ∧ (decode cX11_image 2 = .ok (.lconst 0, 1)) ∧ (decode cX11_image 3 = .ok (.ldc2_w 319, 3)) ∧ (decode cX11_image 6 = .ok (.invokestatic 131, 3)) ∧ (decode cX11_image 9 = .ok (.ifCond .ne 5, 3)) ∧ (decode cX11_image 12 = .ok (.iconst (-1), 1)) ∧ (decode cX11_image 13 = .ok (.ireturn, 1)) ∧ (decode cX11_image 14 = .ok (.aload_n 0, 1)) ∧ (decode cX11_image 15 = .ok (.getfield 85, 3)) ∧ (decode cX11_image 18 = .ok (.iload_n 1, 1)) ∧ (decode cX11_image 19 = .ok (.iconst 1, 1)) ∧ (decode cX11_image 20 = .ok (.bastore, 1)) ∧ (decode cX11_image 21 = .ok (.iconst 0, 1)) ∧ (decode cX11_image 22 = .ok (.istore_n 2, 1)) ∧ (decode cX11_image 23 = .ok (.iload_n 2, 1)) := by decide +kernel
theorem dX11_image_0 : decode cX11_image 0 = .ok (.iload_n 1, 1) := gdX11_image_0.1
theorem dX11_image_1 : decode cX11_image 1 = .ok (.i2l, 1) := gdX11_image_0.2.1
theorem dX11_image_2 : decode cX11_image 2 = .ok (.lconst 0, 1) := gdX11_image_0.2.2.1
theorem dX11_image_3 : decode cX11_image 3 = .ok (.ldc2_w 319, 3) := gdX11_image_0.2.2.2.1
theorem dX11_image_6 : decode cX11_image 6 = .ok (.invokestatic 131, 3) := gdX11_image_0.2.2.2.2.1
theorem dX11_image_9 : decode cX11_image 9 = .ok (.ifCond .ne 5, 3) := gdX11_image_0.2.2.2.2.2.1
theorem dX11_image_12 : decode cX11_image 12 = .ok (.iconst (-1), 1) := gdX11_image_0.2.2.2.2.2.2.1
theorem dX11_image_13 : decode cX11_image 13 = .ok (.ireturn, 1) := gdX11_image_0.2.2.2.2.2.2.2.1
theorem dX11_image_14 : decode cX11_image 14 = .ok (.aload_n 0, 1) := gdX11_image_0.2.2.2.2.2.2.2.2.1
theorem dX11_image_15 : decode cX11_image 15 = .ok (.getfield 85, 3) := gdX11_image_0.2.2.2.2.2.2.2.2.2.1
theorem dX11_image_18 : decode cX11_image 18 = .ok (.iload_n 1, 1) := gdX11_image_0.2.2.2.2.2.2.2.2.2.2.1
theorem dX11_image_19 : decode cX11_image 19 = .ok (.iconst 1, 1) := gdX11_image_0.2.2.2.2.2.2.2.2.2.2.2.1
theorem dX11_image_20 : decode cX11_image 20 = .ok (.bastore, 1) := gdX11_image_0.2.2.2.2.2.2.2.2.2.2.2.2.1
theorem dX11_image_21 : decode cX11_image 21 = .ok (.iconst 0, 1) := gdX11_image_0.2.2.2.2.2.2.2.2.2.2.2.2.2.1
theorem dX11_image_22 : decode cX11_image 22 = .ok (.istore_n 2, 1) := gdX11_image_0.2.2.2.2.2.2.2.2.2.2.2.2.2.2.1
theorem dX11_image_23 : decode cX11_image 23 = .ok (.iload_n 2, 1) := gdX11_image_0.2.2.2.2.2.2.2.2.2.2.2.2.2.2.2
theorem gdX11_image_24 : (decode cX11_image 24 = .ok (.sipush 158, 3)) ∧ (decode cX11_image 27 = .ok (.if_icmp .ge 27, 3)) ∧ (decode cX11_image 30 = .ok (.aload_n 0, 1)) ∧ (decode cX11_image 31 = .ok (.getfield 79, 3)) ∧ (decode cX11_image 34 = .ok (.sipush 158, 3)) ∧ (decode cX11_image 37 = .ok (.iload_n 1, 1)) ∧ (decode cX11_image 38 = .ok (.imul, 1)) ∧ (decode cX11_image 39 = .ok (.iload_n 2, 1)) ∧ (decode cX11_image 40 = .ok (.iadd, 1)) ∧ (decode cX11_image 41 = .ok (.aload_n 0, 1)) ∧ (decode cX11_image 42 = .ok (.getfield 45, 3)) ∧ (decode cX11_image 45 = .ok (.iload_n 2, 1)) ∧ (decode cX11_image 46 = .ok (.iaload, 1)) ∧ (decode cX11_image 47 = .ok (.iastore, 1)) ∧ (decode cX11_image 48 = .ok (.iinc 2 1, 3)) ∧ (decode cX11_image 51 = .ok (.goto (-28), 3)) := by decide +kernel
theorem dX11_image_24 : decode cX11_image 24 = .ok (.sipush 158, 3) := gdX11_image_24.1
theorem dX11_image_27 : decode cX11_image 27 = .ok (.if_icmp .ge 27, 3) := gdX11_image_24.2.1
theorem dX11_image_30 : decode cX11_image 30 = .ok (.aload_n 0, 1) := gdX11_image_24.2.2.1
theorem dX11_image_31 : decode cX11_image 31 = .ok (.getfield 79, 3) := gdX11_image_24.2.2.2.1
theorem dX11_image_34 : decode cX11_image 34 = .ok (.sipush 158, 3) := gdX11_image_24.2.2.2.2.1
theorem dX11_image_37 : decode cX11_image 37 = .ok (.iload_n 1, 1) := gdX11_image_24.2.2.2.2.2.1
theorem dX11_image_38 : decode cX11_image 38 = .ok (.imul, 1) := gdX11_image_24.2.2.2.2.2.2.1
theorem dX11_image_39 : decode cX11_image 39 = .ok (.iload_n 2, 1) := gdX11_image_24.2.2.2.2.2.2.2.1
theorem dX11_image_40 : decode cX11_image 40 = .ok (.iadd, 1) := gdX11_image_24.2.2.2.2.2.2.2.2.1
theorem dX11_image_41 : decode cX11_image 41 = .ok (.aload_n 0, 1) := gdX11_image_24.2.2.2.2.2.2.2.2.2.1
theorem dX11_image_42 : decode cX11_image 42 = .ok (.getfield 45, 3) := gdX11_image_24.2.2.2.2.2.2.2.2.2.2.1
theorem dX11_image_45 : decode cX11_image 45 = .ok (.iload_n 2, 1) := gdX11_image_24.2.2.2.2.2.2.2.2.2.2.2.1
theorem dX11_image_46 : decode cX11_image 46 = .ok (.iaload, 1) := gdX11_image_24.2.2.2.2.2.2.2.2.2.2.2.2.1
theorem dX11_image_47 : decode cX11_image 47 = .ok (.iastore, 1) := gdX11_image_24.2.2.2.2.2.2.2.2.2.2.2.2.2.1
theorem dX11_image_48 : decode cX11_image 48 = .ok (.iinc 2 1, 3) := gdX11_image_24.2.2.2.2.2.2.2.2.2.2.2.2.2.2.1
theorem dX11_image_51 : decode cX11_image 51 = .ok (.goto (-28), 3) := gdX11_image_24.2.2.2.2.2.2.2.2.2.2.2.2.2.2.2
