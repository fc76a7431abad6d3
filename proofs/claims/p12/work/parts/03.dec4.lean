theorem gdX11_settles_58 : (decode cX11_settles 58 = .ok (.bipush 11, 2)) ∧ (decode cX11_settles 60 = .ok (.if_icmp .ne (-60), 3)) ∧ (decode cX11_settles 63 = .ok (.aload_n 0, 1)) ∧ (decode cX11_settles 64 = .ok (.dup, 1)) ∧ (decode cX11_settles 65 = .ok (.getfield 157, 3)) ∧ (decode cX11_settles 68 = .ok (.iconst 1, 1)) ∧ (decode cX11_settles 69 = .ok (.isub, 1)) ∧ (decode cX11_settles 70 = .ok (.putfield 157, 3)) ∧ (decode cX11_settles 73 = .ok (.goto (-73), 3)) ∧ (decode cX11_settles 76 = .ok (.return_, 1)) := by decide +kernel
theorem dX11_settles_58 : decode cX11_settles 58 = .ok (.bipush 11, 2) := gdX11_settles_58.1
theorem dX11_settles_60 : decode cX11_settles 60 = .ok (.if_icmp .ne (-60), 3) := gdX11_settles_58.2.1
theorem dX11_settles_63 : decode cX11_settles 63 = .ok (.aload_n 0, 1) := gdX11_settles_58.2.2.1
theorem dX11_settles_64 : decode cX11_settles 64 = .ok (.dup, 1) := gdX11_settles_58.2.2.2.1
theorem dX11_settles_65 : decode cX11_settles 65 = .ok (.getfield 157, 3) := gdX11_settles_58.2.2.2.2.1
theorem dX11_settles_68 : decode cX11_settles 68 = .ok (.iconst 1, 1) := gdX11_settles_58.2.2.2.2.2.1
theorem dX11_settles_69 : decode cX11_settles 69 = .ok (.isub, 1) := gdX11_settles_58.2.2.2.2.2.2.1
theorem dX11_settles_70 : decode cX11_settles 70 = .ok (.putfield 157, 3) := gdX11_settles_58.2.2.2.2.2.2.2.1
theorem dX11_settles_73 : decode cX11_settles 73 = .ok (.goto (-73), 3) := gdX11_settles_58.2.2.2.2.2.2.2.2.1
theorem dX11_settles_76 : decode cX11_settles 76 = .ok (.return_, 1) := gdX11_settles_58.2.2.2.2.2.2.2.2.2
theorem gdX11_value_0 : (decode cX11_value 0 = .ok (.aload_n 0, 1)) ∧ (decode cX11_value 1 = .ok (.invokevirtual 106, 3)) ∧ (decode cX11_value 4 = .ok (.pop, 1)) ∧ (decode cX11_value 5 = .ok (.aload_n 0, 1)) ∧ (decode cX11_value 6 = .ok (.getfield 103, 3)) ∧ (decode cX11_value 9 = .ok (.istore_n 1, 1)) ∧ (decode cX11_value 10 = .ok (.aload_n 0, 1)) ∧ (decode cX11_value 11 = .ok (.aload_n 0, 1)) ∧ (decode cX11_value 12 = .ok (.getfield 103, 3)) ∧ (decode cX11_value 15 = .ok (.invokevirtual 121, 3)) ∧ (decode cX11_value 18 = .ok (.ifCond .eq 34, 3)) ∧ (decode cX11_value 21 = .ok (.aload_n 0, 1)) ∧ (decode cX11_value 22 = .ok (.iconst 0, 1)) ∧ (decode cX11_value 23 = .ok (.ldc 171, 2)) ∧ (decode cX11_value 25 = .ok (.invokevirtual 172, 3)) ∧ (decode cX11_value 28 = .ok (.ifCond .eq 11, 3)) := by decide +kernel
theorem dX11_value_0 : decode cX11_value 0 = .ok (.aload_n 0, 1) := gdX11_value_0.1
theorem dX11_value_1 : decode cX11_value 1 = .ok (.invokevirtual 106, 3) := gdX11_value_0.2.1
theorem dX11_value_4 : decode cX11_value 4 = .ok (.pop, 1) := gdX11_value_0.2.2.1
theorem dX11_value_5 : decode cX11_value 5 = .ok (.aload_n 0, 1) := gdX11_value_0.2.2.2.1
theorem dX11_value_6 : decode cX11_value 6 = .ok (.getfield 103, 3) := gdX11_value_0.2.2.2.2.1
theorem dX11_value_9 : decode cX11_value 9 = .ok (.istore_n 1, 1) := gdX11_value_0.2.2.2.2.2.1
theorem dX11_value_10 : decode cX11_value 10 = .ok (.aload_n 0, 1) := gdX11_value_0.2.2.2.2.2.2.1
theorem dX11_value_11 : decode cX11_value 11 = .ok (.aload_n 0, 1) := gdX11_value_0.2.2.2.2.2.2.2.1
theorem dX11_value_12 : decode cX11_value 12 = .ok (.getfield 103, 3) := gdX11_value_0.2.2.2.2.2.2.2.2.1
theorem dX11_value_15 : decode cX11_value 15 = .ok (.invokevirtual 121, 3) := gdX11_value_0.2.2.2.2.2.2.2.2.2.1
theorem dX11_value_18 : decode cX11_value 18 = .ok (.ifCond .eq 34, 3) := gdX11_value_0.2.2.2.2.2.2.2.2.2.2.1
theorem dX11_value_21 : decode cX11_value 21 = .ok (.aload_n 0, 1) := gdX11_value_0.2.2.2.2.2.2.2.2.2.2.2.1
theorem dX11_value_22 : decode cX11_value 22 = .ok (.iconst 0, 1) := gdX11_value_0.2.2.2.2.2.2.2.2.2.2.2.2.1
theorem dX11_value_23 : decode cX11_value 23 = .ok (.ldc 171, 2) := gdX11_value_0.2.2.2.2.2.2.2.2.2.2.2.2.2.1
theorem dX11_value_25 : decode cX11_value 25 = .ok (.invokevirtual 172, 3) := gdX11_value_0.2.2.2.2.2.2.2.2.2.2.2.2.2.2.1
theorem dX11_value_28 : decode cX11_value 28 = .ok (.ifCond .eq 11, 3) := gdX11_value_0.2.2.2.2.2.2.2.2.2.2.2.2.2.2.2
theorem gdX11_value_31 : (decode cX11_value 31 = .ok (.aload_n 0, 1)) ∧ (decode cX11_value 32 = .ok (.iload_n 1, 1)) ∧ (decode cX11_value 33 = .ok (.invokevirtual 175, 3)) ∧ (decode cX11_value 36 = .ok (.ifCond .ne 5, 3)) ∧ (decode cX11_value 39 = .ok (.iconst 0, 1)) ∧ (decode cX11_value 40 = .ok (.ireturn, 1)) ∧ (decode cX11_value 41 = .ok (.aload_n 0, 1)) ∧ (decode cX11_value 42 = .ok (.iconst 0, 1)) ∧ (decode cX11_value 43 = .ok (.aload_n 0, 1)) ∧ (decode cX11_value 44 = .ok (.getfield 128, 3)) ∧ (decode cX11_value 47 = .ok (.invokevirtual 167, 3)) ∧ (decode cX11_value 50 = .ok (.iconst 1, 1)) ∧ (decode cX11_value 51 = .ok (.ireturn, 1)) ∧ (decode cX11_value 52 = .ok (.aload_n 0, 1)) ∧ (decode cX11_value 53 = .ok (.invokevirtual 178, 3)) ∧ (decode cX11_value 56 = .ok (.istore_n 2, 1)) := by decide +kernel
theorem dX11_value_31 : decode cX11_value 31 = .ok (.aload_n 0, 1) := gdX11_value_31.1
theorem dX11_value_32 : decode cX11_value 32 = .ok (.iload_n 1, 1) := gdX11_value_31.2.1
theorem dX11_value_33 : decode cX11_value 33 = .ok (.invokevirtual 175, 3) := gdX11_value_31.2.2.1
theorem dX11_value_36 : decode cX11_value 36 = .ok (.ifCond .ne 5, 3) := gdX11_value_31.2.2.2.1
theorem dX11_value_39 : decode cX11_value 39 = .ok (.iconst 0, 1) := gdX11_value_31.2.2.2.2.1
theorem dX11_value_40 : decode cX11_value 40 = .ok (.ireturn, 1) := gdX11_value_31.2.2.2.2.2.1
theorem dX11_value_41 : decode cX11_value 41 = .ok (.aload_n 0, 1) := gdX11_value_31.2.2.2.2.2.2.1
theorem dX11_value_42 : decode cX11_value 42 = .ok (.iconst 0, 1) := gdX11_value_31.2.2.2.2.2.2.2.1
theorem dX11_value_43 : decode cX11_value 43 = .ok (.aload_n 0, 1) := gdX11_value_31.2.2.2.2.2.2.2.2.1
theorem dX11_value_44 : decode cX11_value 44 = .ok (.getfield 128, 3) := gdX11_value_31.2.2.2.2.2.2.2.2.2.1
theorem dX11_value_47 : decode cX11_value 47 = .ok (.invokevirtual 167, 3) := gdX11_value_31.2.2.2.2.2.2.2.2.2.2.1
theorem dX11_value_50 : decode cX11_value 50 = .ok (.iconst 1, 1) := gdX11_value_31.2.2.2.2.2.2.2.2.2.2.2.1
theorem dX11_value_51 : decode cX11_value 51 = .ok (.ireturn, 1) := gdX11_value_31.2.2.2.2.2.2.2.2.2.2.2.2.1
theorem dX11_value_52 : decode cX11_value 52 = .ok (.aload_n 0, 1) := gdX11_value_31.2.2.2.2.2.2.2.2.2.2.2.2.2.1
theorem dX11_value_53 : decode cX11_value 53 = .ok (.invokevirtual 178, 3) := gdX11_value_31.2.2.2.2.2.2.2.2.2.2.2.2.2.2.1
theorem dX11_value_56 : decode cX11_value 56 = .ok (.istore_n 2, 1) := gdX11_value_31.2.2.2.2.2.2.2.2.2.2.2.2.2.2.2
theorem gdX11_value_57 : (decode cX11_value 57 = .ok (.iload_n 2, 1)) ∧ (decode cX11_value 58 = .ok (.ifCond .ge 10, 3)) ∧ (decode cX11_value 61 = .ok (.aload_n 0, 1)) ∧ (decode cX11_value 62 = .ok (.iconst 0, 1)) ∧ (decode cX11_value 63 = .ok (.iload_n 1, 1)) ∧ (decode cX11_value 64 = .ok (.invokevirtual 124, 3)) ∧ (decode cX11_value 67 = .ok (.ireturn, 1)) ∧ (decode cX11_value 68 = .ok (.aload_n 0, 1)) ∧ (decode cX11_value 69 = .ok (.iload_n 1, 1)) ∧ (decode cX11_value 70 = .ok (.invokevirtual 175, 3)) ∧ (decode cX11_value 73 = .ok (.ifCond .ne 5, 3)) ∧ (decode cX11_value 76 = .ok (.iconst 0, 1)) ∧ (decode cX11_value 77 = .ok (.ireturn, 1)) ∧ (decode cX11_value 78 = .ok (.aload_n 0, 1)) ∧ (decode cX11_value 79 = .ok (.invokevirtual 118, 3)) ∧ (decode cX11_value 82 = .ok (.aload_n 0, 1)) := by decide +kernel
theorem dX11_value_57 : decode cX11_value 57 = .ok (.iload_n 2, 1) := gdX11_value_57.1
theorem dX11_value_58 : decode cX11_value 58 = .ok (.ifCond .ge 10, 3) := gdX11_value_57.2.1
theorem dX11_value_61 : decode cX11_value 61 = .ok (.aload_n 0, 1) := gdX11_value_57.2.2.1
theorem dX11_value_62 : decode cX11_value 62 = .ok (.iconst 0, 1) := gdX11_value_57.2.2.2.1
theorem dX11_value_63 : decode cX11_value 63 = .ok (.iload_n 1, 1) := gdX11_value_57.2.2.2.2.1
theorem dX11_value_64 : decode cX11_value 64 = .ok (.invokevirtual 124, 3) := gdX11_value_57.2.2.2.2.2.1
theorem dX11_value_67 : decode cX11_value 67 = .ok (.ireturn, 1) := gdX11_value_57.2.2.2.2.2.2.1
theorem dX11_value_68 : decode cX11_value 68 = .ok (.aload_n 0, 1) := gdX11_value_57.2.2.2.2.2.2.2.1
theorem dX11_value_69 : decode cX11_value 69 = .ok (.iload_n 1, 1) := gdX11_value_57.2.2.2.2.2.2.2.2.1
theorem dX11_value_70 : decode cX11_value 70 = .ok (.invokevirtual 175, 3) := gdX11_value_57.2.2.2.2.2.2.2.2.2.1
theorem dX11_value_73 : decode cX11_value 73 = .ok (.ifCond .ne 5, 3) := gdX11_value_57.2.2.2.2.2.2.2.2.2.2.1
theorem dX11_value_76 : decode cX11_value 76 = .ok (.iconst 0, 1) := gdX11_value_57.2.2.2.2.2.2.2.2.2.2.2.1
theorem dX11_value_77 : decode cX11_value 77 = .ok (.ireturn, 1) := gdX11_value_57.2.2.2.2.2.2.2.2.2.2.2.2.1
theorem dX11_value_78 : decode cX11_value 78 = .ok (.aload_n 0, 1) := gdX11_value_57.2.2.2.2.2.2.2.2.2.2.2.2.2.1
theorem dX11_value_79 : decode cX11_value 79 = .ok (.invokevirtual 118, 3) := gdX11_value_57.2.2.2.2.2.2.2.2.2.2.2.2.2.2.1
theorem dX11_value_82 : decode cX11_value 82 = .ok (.aload_n 0, 1) := gdX11_value_57.2.2.2.2.2.2.2.2.2.2.2.2.2.2.2
theorem gdX11_value_83 : (decode cX11_value 83 = .ok (.iconst 1, 1)) ∧ (decode cX11_value 84 = .ok (.iload_n 2, 1)) ∧ (decode cX11_value 85 = .ok (.invokevirtual 167, 3)) ∧ (decode cX11_value 88 = .ok (.iconst 1, 1)) ∧ (decode cX11_value 89 = .ok (.ireturn, 1)) := by decide +kernel
theorem dX11_value_83 : decode cX11_value 83 = .ok (.iconst 1, 1) := gdX11_value_83.1
theorem dX11_value_84 : decode cX11_value 84 = .ok (.iload_n 2, 1) := gdX11_value_83.2.1
theorem dX11_value_85 : decode cX11_value 85 = .ok (.invokevirtual 167, 3) := gdX11_value_83.2.2.1
theorem dX11_value_88 : decode cX11_value 88 = .ok (.iconst 1, 1) := gdX11_value_83.2.2.2.1
theorem dX11_value_89 : decode cX11_value 89 = .ok (.ireturn, 1) := gdX11_value_83.2.2.2.2
theorem gdX11_term_0 : (decode cX11_term 0 = .ok (.aload_n 0, 1)) ∧ (decode cX11_term 1 = .ok (.invokevirtual 181, 3)) ∧ (decode cX11_term 4 = .ok (.ifCond .ne 5, 3)) ∧ (decode cX11_term 7 = .ok (.iconst 0, 1)) ∧ (decode cX11_term 8 = .ok (.ireturn, 1)) ∧ (decode cX11_term 9 = .ok (.aload_n 0, 1)) ∧ (decode cX11_term 10 = .ok (.invokevirtual 106, 3)) ∧ (decode cX11_term 13 = .ok (.bipush 42, 2)) ∧ (decode cX11_term 15 = .ok (.if_icmp .eq 12, 3)) ∧ (decode cX11_term 18 = .ok (.aload_n 0, 1)) ∧ (decode cX11_term 19 = .ok (.invokevirtual 106, 3)) ∧ (decode cX11_term 22 = .ok (.bipush 47, 2)) ∧ (decode cX11_term 24 = .ok (.if_icmp .ne 51, 3)) ∧ (decode cX11_term 27 = .ok (.aload_n 0, 1)) ∧ (decode cX11_term 28 = .ok (.getfield 7, 3)) ∧ (decode cX11_term 31 = .ok (.aload_n 0, 1)) := by decide +kernel
theorem dX11_term_0 : decode cX11_term 0 = .ok (.aload_n 0, 1) := gdX11_term_0.1
theorem dX11_term_1 : decode cX11_term 1 = .ok (.invokevirtual 181, 3) := gdX11_term_0.2.1
theorem dX11_term_4 : decode cX11_term 4 = .ok (.ifCond .ne 5, 3) := gdX11_term_0.2.2.1
theorem dX11_term_7 : decode cX11_term 7 = .ok (.iconst 0, 1) := gdX11_term_0.2.2.2.1
theorem dX11_term_8 : decode cX11_term 8 = .ok (.ireturn, 1) := gdX11_term_0.2.2.2.2.1
theorem dX11_term_9 : decode cX11_term 9 = .ok (.aload_n 0, 1) := gdX11_term_0.2.2.2.2.2.1
theorem dX11_term_10 : decode cX11_term 10 = .ok (.invokevirtual 106, 3) := gdX11_term_0.2.2.2.2.2.2.1
theorem dX11_term_13 : decode cX11_term 13 = .ok (.bipush 42, 2) := gdX11_term_0.2.2.2.2.2.2.2.1
theorem dX11_term_15 : decode cX11_term 15 = .ok (.if_icmp .eq 12, 3) := gdX11_term_0.2.2.2.2.2.2.2.2.1
theorem dX11_term_18 : decode cX11_term 18 = .ok (.aload_n 0, 1) := gdX11_term_0.2.2.2.2.2.2.2.2.2.1
theorem dX11_term_19 : decode cX11_term 19 = .ok (.invokevirtual 106, 3) := gdX11_term_0.2.2.2.2.2.2.2.2.2.2.1
theorem dX11_term_22 : decode cX11_term 22 = .ok (.bipush 47, 2) := gdX11_term_0.2.2.2.2.2.2.2.2.2.2.2.1
theorem dX11_term_24 : decode cX11_term 24 = .ok (.if_icmp .ne 51, 3) := gdX11_term_0.2.2.2.2.2.2.2.2.2.2.2.2.1
theorem dX11_term_27 : decode cX11_term 27 = .ok (.aload_n 0, 1) := gdX11_term_0.2.2.2.2.2.2.2.2.2.2.2.2.2.1
theorem dX11_term_28 : decode cX11_term 28 = .ok (.getfield 7, 3) := gdX11_term_0.2.2.2.2.2.2.2.2.2.2.2.2.2.2.1
theorem dX11_term_31 : decode cX11_term 31 = .ok (.aload_n 0, 1) := gdX11_term_0.2.2.2.2.2.2.2.2.2.2.2.2.2.2.2
theorem gdX11_term_32 : (decode cX11_term 32 = .ok (.getfield 103, 3)) ∧ (decode cX11_term 35 = .ok (.baload, 1)) ∧ (decode cX11_term 36 = .ok (.bipush 42, 2)) ∧ (decode cX11_term 38 = .ok (.if_icmp .ne 7, 3)) ∧ (decode cX11_term 41 = .ok (.iconst 4, 1)) ∧ (decode cX11_term 42 = .ok (.goto 4, 3)) ∧ (decode cX11_term 45 = .ok (.iconst 5, 1)) ∧ (decode cX11_term 46 = .ok (.istore_n 1, 1)) ∧ (decode cX11_term 47 = .ok (.aload_n 0, 1)) ∧ (decode cX11_term 48 = .ok (.dup, 1)) ∧ (decode cX11_term 49 = .ok (.getfield 103, 3)) ∧ (decode cX11_term 52 = .ok (.iconst 1, 1)) ∧ (decode cX11_term 53 = .ok (.iadd, 1)) ∧ (decode cX11_term 54 = .ok (.putfield 103, 3)) ∧ (decode cX11_term 57 = .ok (.aload_n 0, 1)) ∧ (decode cX11_term 58 = .ok (.invokevirtual 181, 3)) := by decide +kernel
theorem dX11_term_32 : decode cX11_term 32 = .ok (.getfield 103, 3) := gdX11_term_32.1
theorem dX11_term_35 : decode cX11_term 35 = .ok (.baload, 1) := gdX11_term_32.2.1
theorem dX11_term_36 : decode cX11_term 36 = .ok (.bipush 42, 2) := gdX11_term_32.2.2.1
theorem dX11_term_38 : decode cX11_term 38 = .ok (.if_icmp .ne 7, 3) := gdX11_term_32.2.2.2.1
theorem dX11_term_41 : decode cX11_term 41 = .ok (.iconst 4, 1) := gdX11_term_32.2.2.2.2.1
theorem dX11_term_42 : decode cX11_term 42 = .ok (.goto 4, 3) := gdX11_term_32.2.2.2.2.2.1
theorem dX11_term_45 : decode cX11_term 45 = .ok (.iconst 5, 1) := gdX11_term_32.2.2.2.2.2.2.1
theorem dX11_term_46 : decode cX11_term 46 = .ok (.istore_n 1, 1) := gdX11_term_32.2.2.2.2.2.2.2.1
theorem dX11_term_47 : decode cX11_term 47 = .ok (.aload_n 0, 1) := gdX11_term_32.2.2.2.2.2.2.2.2.1
theorem dX11_term_48 : decode cX11_term 48 = .ok (.dup, 1) := gdX11_term_32.2.2.2.2.2.2.2.2.2.1
theorem dX11_term_49 : decode cX11_term 49 = .ok (.getfield 103, 3) := gdX11_term_32.2.2.2.2.2.2.2.2.2.2.1
theorem dX11_term_52 : decode cX11_term 52 = .ok (.iconst 1, 1) := gdX11_term_32.2.2.2.2.2.2.2.2.2.2.2.1
theorem dX11_term_53 : decode cX11_term 53 = .ok (.iadd, 1) := gdX11_term_32.2.2.2.2.2.2.2.2.2.2.2.2.1
theorem dX11_term_54 : decode cX11_term 54 = .ok (.putfield 103, 3) := gdX11_term_32.2.2.2.2.2.2.2.2.2.2.2.2.2.1
theorem dX11_term_57 : decode cX11_term 57 = .ok (.aload_n 0, 1) := gdX11_term_32.2.2.2.2.2.2.2.2.2.2.2.2.2.2.1
theorem dX11_term_58 : decode cX11_term 58 = .ok (.invokevirtual 181, 3) := gdX11_term_32.2.2.2.2.2.2.2.2.2.2.2.2.2.2.2
theorem gdX11_term_61 : (decode cX11_term 61 = .ok (.ifCond .ne 5, 3)) ∧ (decode cX11_term 64 = .ok (.iconst 0, 1)) ∧ (decode cX11_term 65 = .ok (.ireturn, 1)) ∧ (decode cX11_term 66 = .ok (.aload_n 0, 1)) ∧ (decode cX11_term 67 = .ok (.iload_n 1, 1)) ∧ (decode cX11_term 68 = .ok (.iconst 0, 1)) ∧ (decode cX11_term 69 = .ok (.invokevirtual 167, 3)) ∧ (decode cX11_term 72 = .ok (.goto (-63), 3)) ∧ (decode cX11_term 75 = .ok (.iconst 1, 1)) ∧ (decode cX11_term 76 = .ok (.ireturn, 1)) := by decide +kernel
theorem dX11_term_61 : decode cX11_term 61 = .ok (.ifCond .ne 5, 3) := gdX11_term_61.1
theorem dX11_term_64 : decode cX11_term 64 = .ok (.iconst 0, 1) := gdX11_term_61.2.1
theorem dX11_term_65 : decode cX11_term 65 = .ok (.ireturn, 1) := gdX11_term_61.2.2.1
theorem dX11_term_66 : decode cX11_term 66 = .ok (.aload_n 0, 1) := gdX11_term_61.2.2.2.1
theorem dX11_term_67 : decode cX11_term 67 = .ok (.iload_n 1, 1) := gdX11_term_61.2.2.2.2.1
theorem dX11_term_68 : decode cX11_term 68 = .ok (.iconst 0, 1) := gdX11_term_61.2.2.2.2.2.1
theorem dX11_term_69 : decode cX11_term 69 = .ok (.invokevirtual 167, 3) := gdX11_term_61.2.2.2.2.2.2.1
theorem dX11_term_72 : decode cX11_term 72 = .ok (.goto (-63), 3) := gdX11_term_61.2.2.2.2.2.2.2.1
theorem dX11_term_75 : decode cX11_term 75 = .ok (.iconst 1, 1) := gdX11_term_61.2.2.2.2.2.2.2.2.1
theorem dX11_term_76 : decode cX11_term 76 = .ok (.ireturn, 1) := gdX11_term_61.2.2.2.2.2.2.2.2.2
theorem gdX11_sum_0 : (decode cX11_sum 0 = .ok (.aload_n 0, 1)) ∧ (decode cX11_sum 1 = .ok (.invokevirtual 185, 3)) ∧ (decode cX11_sum 4 = .ok (.ifCond .ne 5, 3)) ∧ (decode cX11_sum 7 = .ok (.iconst 0, 1)) ∧ (decode cX11_sum 8 = .ok (.ireturn, 1)) ∧ (decode cX11_sum 9 = .ok (.aload_n 0, 1)) ∧ (decode cX11_sum 10 = .ok (.invokevirtual 106, 3)) ∧ (decode cX11_sum 13 = .ok (.bipush 43, 2)) ∧ (decode cX11_sum 15 = .ok (.if_icmp .eq 12, 3)) ∧ (decode cX11_sum 18 = .ok (.aload_n 0, 1)) ∧ (decode cX11_sum 19 = .ok (.invokevirtual 106, 3)) ∧ (decode cX11_sum 22 = .ok (.bipush 45, 2)) ∧ (decode cX11_sum 24 = .ok (.if_icmp .ne 51, 3)) ∧ (decode cX11_sum 27 = .ok (.aload_n 0, 1)) ∧ (decode cX11_sum 28 = .ok (.getfield 7, 3)) ∧ (decode cX11_sum 31 = .ok (.aload_n 0, 1)) := by decide +kernel
theorem dX11_sum_0 : decode cX11_sum 0 = .ok (.aload_n 0, 1) := gdX11_sum_0.1
theorem dX11_sum_1 : decode cX11_sum 1 = .ok (.invokevirtual 185, 3) := gdX11_sum_0.2.1
theorem dX11_sum_4 : decode cX11_sum 4 = .ok (.ifCond .ne 5, 3) := gdX11_sum_0.2.2.1
theorem dX11_sum_7 : decode cX11_sum 7 = .ok (.iconst 0, 1) := gdX11_sum_0.2.2.2.1
theorem dX11_sum_8 : decode cX11_sum 8 = .ok (.ireturn, 1) := gdX11_sum_0.2.2.2.2.1
theorem dX11_sum_9 : decode cX11_sum 9 = .ok (.aload_n 0, 1) := gdX11_sum_0.2.2.2.2.2.1
theorem dX11_sum_10 : decode cX11_sum 10 = .ok (.invokevirtual 106, 3) := gdX11_sum_0.2.2.2.2.2.2.1
theorem dX11_sum_13 : decode cX11_sum 13 = .ok (.bipush 43, 2) := gdX11_sum_0.2.2.2.2.2.2.2.1
theorem dX11_sum_15 : decode cX11_sum 15 = .ok (.if_icmp .eq 12, 3) := gdX11_sum_0.2.2.2.2.2.2.2.2.1
theorem dX11_sum_18 : decode cX11_sum 18 = .ok (.aload_n 0, 1) := gdX11_sum_0.2.2.2.2.2.2.2.2.2.1
theorem dX11_sum_19 : decode cX11_sum 19 = .ok (.invokevirtual 106, 3) := gdX11_sum_0.2.2.2.2.2.2.2.2.2.2.1
theorem dX11_sum_22 : decode cX11_sum 22 = .ok (.bipush 45, 2) := gdX11_sum_0.2.2.2.2.2.2.2.2.2.2.2.1
theorem dX11_sum_24 : decode cX11_sum 24 = .ok (.if_icmp .ne 51, 3) := gdX11_sum_0.2.2.2.2.2.2.2.2.2.2.2.2.1
theorem dX11_sum_27 : decode cX11_sum 27 = .ok (.aload_n 0, 1) := gdX11_sum_0.2.2.2.2.2.2.2.2.2.2.2.2.2.1
theorem dX11_sum_28 : decode cX11_sum 28 = .ok (.getfield 7, 3) := gdX11_sum_0.2.2.2.2.2.2.2.2.2.2.2.2.2.2.1
theorem dX11_sum_31 : decode cX11_sum 31 = .ok (.aload_n 0, 1) := gdX11_sum_0.2.2.2.2.2.2.2.2.2.2.2.2.2.2.2
theorem gdX11_sum_32 : (decode cX11_sum 32 = .ok (.getfield 103, 3)) ∧ (decode cX11_sum 35 = .ok (.baload, 1)) ∧ (decode cX11_sum 36 = .ok (.bipush 43, 2)) ∧ (decode cX11_sum 38 = .ok (.if_icmp .ne 7, 3)) ∧ (decode cX11_sum 41 = .ok (.iconst 2, 1)) ∧ (decode cX11_sum 42 = .ok (.goto 4, 3)) ∧ (decode cX11_sum 45 = .ok (.iconst 3, 1)) ∧ (decode cX11_sum 46 = .ok (.istore_n 1, 1)) ∧ (decode cX11_sum 47 = .ok (.aload_n 0, 1)) ∧ (decode cX11_sum 48 = .ok (.dup, 1)) ∧ (decode cX11_sum 49 = .ok (.getfield 103, 3)) ∧ (decode cX11_sum 52 = .ok (.iconst 1, 1)) ∧ (decode cX11_sum 53 = .ok (.iadd, 1)) ∧ (decode cX11_sum 54 = .ok (.putfield 103, 3)) ∧ (decode cX11_sum 57 = .ok (.aload_n 0, 1)) ∧ (decode cX11_sum 58 = .ok (.invokevirtual 185, 3)) := by decide +kernel
theorem dX11_sum_32 : decode cX11_sum 32 = .ok (.getfield 103, 3) := gdX11_sum_32.1
theorem dX11_sum_35 : decode cX11_sum 35 = .ok (.baload, 1) := gdX11_sum_32.2.1
theorem dX11_sum_36 : decode cX11_sum 36 = .ok (.bipush 43, 2) := gdX11_sum_32.2.2.1
theorem dX11_sum_38 : decode cX11_sum 38 = .ok (.if_icmp .ne 7, 3) := gdX11_sum_32.2.2.2.1
theorem dX11_sum_41 : decode cX11_sum 41 = .ok (.iconst 2, 1) := gdX11_sum_32.2.2.2.2.1
theorem dX11_sum_42 : decode cX11_sum 42 = .ok (.goto 4, 3) := gdX11_sum_32.2.2.2.2.2.1
theorem dX11_sum_45 : decode cX11_sum 45 = .ok (.iconst 3, 1) := gdX11_sum_32.2.2.2.2.2.2.1
theorem dX11_sum_46 : decode cX11_sum 46 = .ok (.istore_n 1, 1) := gdX11_sum_32.2.2.2.2.2.2.2.1
theorem dX11_sum_47 : decode cX11_sum 47 = .ok (.aload_n 0, 1) := gdX11_sum_32.2.2.2.2.2.2.2.2.1
theorem dX11_sum_48 : decode cX11_sum 48 = .ok (.dup, 1) := gdX11_sum_32.2.2.2.2.2.2.2.2.2.1
theorem dX11_sum_49 : decode cX11_sum 49 = .ok (.getfield 103, 3) := gdX11_sum_32.2.2.2.2.2.2.2.2.2.2.1
theorem dX11_sum_52 : decode cX11_sum 52 = .ok (.iconst 1, 1) := gdX11_sum_32.2.2.2.2.2.2.2.2.2.2.2.1
theorem dX11_sum_53 : decode cX11_sum 53 = .ok (.iadd, 1) := gdX11_sum_32.2.2.2.2.2.2.2.2.2.2.2.2.1
theorem dX11_sum_54 : decode cX11_sum 54 = .ok (.putfield 103, 3) := gdX11_sum_32.2.2.2.2.2.2.2.2.2.2.2.2.2.1
theorem dX11_sum_57 : decode cX11_sum 57 = .ok (.aload_n 0, 1) := gdX11_sum_32.2.2.2.2.2.2.2.2.2.2.2.2.2.2.1
theorem dX11_sum_58 : decode cX11_sum 58 = .ok (.invokevirtual 185, 3) := gdX11_sum_32.2.2.2.2.2.2.2.2.2.2.2.2.2.2.2
theorem gdX11_sum_61 : (decode cX11_sum 61 = .ok (.ifCond .ne 5, 3)) ∧ (decode cX11_sum 64 = .ok (.iconst 0, 1)) ∧ (decode cX11_sum 65 = .ok (.ireturn, 1)) ∧ (decode cX11_sum 66 = .ok (.aload_n 0, 1)) ∧ (decode cX11_sum 67 = .ok (.iload_n 1, 1)) ∧ (decode cX11_sum 68 = .ok (.iconst 0, 1)) ∧ (decode cX11_sum 69 = .ok (.invokevirtual 167, 3)) ∧ (decode cX11_sum 72 = .ok (.goto (-63), 3)) ∧ (decode cX11_sum 75 = .ok (.iconst 1, 1)) ∧ (decode cX11_sum 76 = .ok (.ireturn, 1)) := by decide +kernel
theorem dX11_sum_61 : decode cX11_sum 61 = .ok (.ifCond .ne 5, 3) := gdX11_sum_61.1
theorem dX11_sum_64 : decode cX11_sum 64 = .ok (.iconst 0, 1) := gdX11_sum_61.2.1
theorem dX11_sum_65 : decode cX11_sum 65 = .ok (.ireturn, 1) := gdX11_sum_61.2.2.1
theorem dX11_sum_66 : decode cX11_sum 66 = .ok (.aload_n 0, 1) := gdX11_sum_61.2.2.2.1
theorem dX11_sum_67 : decode cX11_sum 67 = .ok (.iload_n 1, 1) := gdX11_sum_61.2.2.2.2.1
theorem dX11_sum_68 : decode cX11_sum 68 = .ok (.iconst 0, 1) := gdX11_sum_61.2.2.2.2.2.1
theorem dX11_sum_69 : decode cX11_sum 69 = .ok (.invokevirtual 167, 3) := gdX11_sum_61.2.2.2.2.2.2.1
theorem dX11_sum_72 : decode cX11_sum 72 = .ok (.goto (-63), 3) := gdX11_sum_61.2.2.2.2.2.2.2.1
theorem dX11_sum_75 : decode cX11_sum 75 = .ok (.iconst 1, 1) := gdX11_sum_61.2.2.2.2.2.2.2.2.1
theorem dX11_sum_76 : decode cX11_sum 76 = .ok (.ireturn, 1) := gdX11_sum_61.2.2.2.2.2.2.2.2.2
theorem gdX11_compare_0 : (decode cX11_compare 0 = .ok (.aload_n 0, 1)) ∧ (decode cX11_compare 1 = .ok (.invokevirtual 188, 3)) ∧ (decode cX11_compare 4 = .ok (.ifCond .ne 5, 3)) ∧ (decode cX11_compare 7 = .ok (.iconst 0, 1)) ∧ (decode cX11_compare 8 = .ok (.ireturn, 1)) ∧ (decode cX11_compare 9 = .ok (.aload_n 0, 1)) ∧ (decode cX11_compare 10 = .ok (.invokevirtual 106, 3)) ∧ (decode cX11_compare 13 = .ok (.istore_n 1, 1)) ∧ (decode cX11_compare 14 = .ok (.aload_n 0, 1)) ∧ (decode cX11_compare 15 = .ok (.getfield 103, 3)) ∧ (decode cX11_compare 18 = .ok (.istore_n 2, 1)) ∧ (decode cX11_compare 19 = .ok (.iload_n 1, 1)) ∧ (decode cX11_compare 20 = .ok (.bipush 60, 2)) ∧ (decode cX11_compare 22 = .ok (.if_icmp .eq 22, 3)) ∧ (decode cX11_compare 25 = .ok (.iload_n 1, 1)) ∧ (decode cX11_compare 26 = .ok (.bipush 61, 2)) := by decide +kernel
theorem dX11_compare_0 : decode cX11_compare 0 = .ok (.aload_n 0, 1) := gdX11_compare_0.1
theorem dX11_compare_1 : decode cX11_compare 1 = .ok (.invokevirtual 188, 3) := gdX11_compare_0.2.1
theorem dX11_compare_4 : decode cX11_compare 4 = .ok (.ifCond .ne 5, 3) := gdX11_compare_0.2.2.1
theorem dX11_compare_7 : decode cX11_compare 7 = .ok (.iconst 0, 1) := gdX11_compare_0.2.2.2.1
theorem dX11_compare_8 : decode cX11_compare 8 = .ok (.ireturn, 1) := gdX11_compare_0.2.2.2.2.1
theorem dX11_compare_9 : decode cX11_compare 9 = .ok (.aload_n 0, 1) := gdX11_compare_0.2.2.2.2.2.1
theorem dX11_compare_10 : decode cX11_compare 10 = .ok (.invokevirtual 106, 3) := gdX11_compare_0.2.2.2.2.2.2.1
theorem dX11_compare_13 : decode cX11_compare 13 = .ok (.istore_n 1, 1) := gdX11_compare_0.2.2.2.2.2.2.2.1
theorem dX11_compare_14 : decode cX11_compare 14 = .ok (.aload_n 0, 1) := gdX11_compare_0.2.2.2.2.2.2.2.2.1
theorem dX11_compare_15 : decode cX11_compare 15 = .ok (.getfield 103, 3) := gdX11_compare_0.2.2.2.2.2.2.2.2.2.1
theorem dX11_compare_18 : decode cX11_compare 18 = .ok (.istore_n 2, 1) := gdX11_compare_0.2.2.2.2.2.2.2.2.2.2.1
theorem dX11_compare_19 : decode cX11_compare 19 = .ok (.iload_n 1, 1) := gdX11_compare_0.2.2.2.2.2.2.2.2.2.2.2.1
theorem dX11_compare_20 : decode cX11_compare 20 = .ok (.bipush 60, 2) := gdX11_compare_0.2.2.2.2.2.2.2.2.2.2.2.2.1
theorem dX11_compare_22 : decode cX11_compare 22 = .ok (.if_icmp .eq 22, 3) := gdX11_compare_0.2.2.2.2.2.2.2.2.2.2.2.2.2.1
theorem dX11_compare_25 : decode cX11_compare 25 = .ok (.iload_n 1, 1) := gdX11_compare_0.2.2.2.2.2.2.2.2.2.2.2.2.2.2.1
theorem dX11_compare_26 : decode cX11_compare 26 = .ok (.bipush 61, 2) := gdX11_compare_0.2.2.2.2.2.2.2.2.2.2.2.2.2.2.2
theorem gdX11_compare_28 : (decode cX11_compare 28 = .ok (.if_icmp .eq 16, 3)) ∧ (decode cX11_compare 31 = .ok (.iload_n 1, 1)) ∧ (decode cX11_compare 32 = .ok (.bipush 62, 2)) ∧ (decode cX11_compare 34 = .ok (.if_icmp .eq 10, 3)) ∧ (decode cX11_compare 37 = .ok (.aload_n 0, 1)) ∧ (decode cX11_compare 38 = .ok (.iconst 0, 1)) ∧ (decode cX11_compare 39 = .ok (.iload_n 2, 1)) ∧ (decode cX11_compare 40 = .ok (.invokevirtual 124, 3)) ∧ (decode cX11_compare 43 = .ok (.ireturn, 1)) ∧ (decode cX11_compare 44 = .ok (.aload_n 0, 1)) ∧ (decode cX11_compare 45 = .ok (.dup, 1)) ∧ (decode cX11_compare 46 = .ok (.getfield 103, 3)) ∧ (decode cX11_compare 49 = .ok (.iconst 1, 1)) ∧ (decode cX11_compare 50 = .ok (.iadd, 1)) ∧ (decode cX11_compare 51 = .ok (.putfield 103, 3)) ∧ (decode cX11_compare 54 = .ok (.iload_n 1, 1)) := by decide +kernel
theorem dX11_compare_28 : decode cX11_compare 28 = .ok (.if_icmp .eq 16, 3) := gdX11_compare_28.1
theorem dX11_compare_31 : decode cX11_compare 31 = .ok (.iload_n 1, 1) := gdX11_compare_28.2.1
theorem dX11_compare_32 : decode cX11_compare 32 = .ok (.bipush 62, 2) := gdX11_compare_28.2.2.1
theorem dX11_compare_34 : decode cX11_compare 34 = .ok (.if_icmp .eq 10, 3) := gdX11_compare_28.2.2.2.1
theorem dX11_compare_37 : decode cX11_compare 37 = .ok (.aload_n 0, 1) := gdX11_compare_28.2.2.2.2.1
theorem dX11_compare_38 : decode cX11_compare 38 = .ok (.iconst 0, 1) := gdX11_compare_28.2.2.2.2.2.1
theorem dX11_compare_39 : decode cX11_compare 39 = .ok (.iload_n 2, 1) := gdX11_compare_28.2.2.2.2.2.2.1
theorem dX11_compare_40 : decode cX11_compare 40 = .ok (.invokevirtual 124, 3) := gdX11_compare_28.2.2.2.2.2.2.2.1
theorem dX11_compare_43 : decode cX11_compare 43 = .ok (.ireturn, 1) := gdX11_compare_28.2.2.2.2.2.2.2.2.1
theorem dX11_compare_44 : decode cX11_compare 44 = .ok (.aload_n 0, 1) := gdX11_compare_28.2.2.2.2.2.2.2.2.2.1
theorem dX11_compare_45 : decode cX11_compare 45 = .ok (.dup, 1) := gdX11_compare_28.2.2.2.2.2.2.2.2.2.2.1
theorem dX11_compare_46 : decode cX11_compare 46 = .ok (.getfield 103, 3) := gdX11_compare_28.2.2.2.2.2.2.2.2.2.2.2.1
theorem dX11_compare_49 : decode cX11_compare 49 = .ok (.iconst 1, 1) := gdX11_compare_28.2.2.2.2.2.2.2.2.2.2.2.2.1
theorem dX11_compare_50 : decode cX11_compare 50 = .ok (.iadd, 1) := gdX11_compare_28.2.2.2.2.2.2.2.2.2.2.2.2.2.1
theorem dX11_compare_51 : decode cX11_compare 51 = .ok (.putfield 103, 3) := gdX11_compare_28.2.2.2.2.2.2.2.2.2.2.2.2.2.2.1
theorem dX11_compare_54 : decode cX11_compare 54 = .ok (.iload_n 1, 1) := gdX11_compare_28.2.2.2.2.2.2.2.2.2.2.2.2.2.2.2
theorem gdX11_compare_55 : (decode cX11_compare 55 = .ok (.bipush 61, 2)) ∧ (decode cX11_compare 57 = .ok (.if_icmp .eq 32, 3)) ∧ (decode cX11_compare 60 = .ok (.aload_n 0, 1)) ∧ (decode cX11_compare 61 = .ok (.getfield 103, 3)) ∧ (decode cX11_compare 64 = .ok (.aload_n 0, 1)) ∧ (decode cX11_compare 65 = .ok (.getfield 92, 3)) ∧ (decode cX11_compare 68 = .ok (.if_icmp .ge 21, 3)) ∧ (decode cX11_compare 71 = .ok (.aload_n 0, 1)) ∧ (decode cX11_compare 72 = .ok (.getfield 7, 3)) ∧ (decode cX11_compare 75 = .ok (.aload_n 0, 1)) ∧ (decode cX11_compare 76 = .ok (.getfield 103, 3)) ∧ (decode cX11_compare 79 = .ok (.baload, 1)) ∧ (decode cX11_compare 80 = .ok (.bipush 61, 2)) ∧ (decode cX11_compare 82 = .ok (.if_icmp .ne 7, 3)) ∧ (decode cX11_compare 85 = .ok (.iconst 1, 1)) ∧ (decode cX11_compare 86 = .ok (.goto 4, 3)) := by decide +kernel
theorem dX11_compare_55 : decode cX11_compare 55 = .ok (.bipush 61, 2) := gdX11_compare_55.1
theorem dX11_compare_57 : decode cX11_compare 57 = .ok (.if_icmp .eq 32, 3) := gdX11_compare_55.2.1
theorem dX11_compare_60 : decode cX11_compare 60 = .ok (.aload_n 0, 1) := gdX11_compare_55.2.2.1
theorem dX11_compare_61 : decode cX11_compare 61 = .ok (.getfield 103, 3) := gdX11_compare_55.2.2.2.1
theorem dX11_compare_64 : decode cX11_compare 64 = .ok (.aload_n 0, 1) := gdX11_compare_55.2.2.2.2.1
theorem dX11_compare_65 : decode cX11_compare 65 = .ok (.getfield 92, 3) := gdX11_compare_55.2.2.2.2.2.1
theorem dX11_compare_68 : decode cX11_compare 68 = .ok (.if_icmp .ge 21, 3) := gdX11_compare_55.2.2.2.2.2.2.1
theorem dX11_compare_71 : decode cX11_compare 71 = .ok (.aload_n 0, 1) := gdX11_compare_55.2.2.2.2.2.2.2.1
theorem dX11_compare_72 : decode cX11_compare 72 = .ok (.getfield 7, 3) := gdX11_compare_55.2.2.2.2.2.2.2.2.1
theorem dX11_compare_75 : decode cX11_compare 75 = .ok (.aload_n 0, 1) := gdX11_compare_55.2.2.2.2.2.2.2.2.2.1
theorem dX11_compare_76 : decode cX11_compare 76 = .ok (.getfield 103, 3) := gdX11_compare_55.2.2.2.2.2.2.2.2.2.2.1
theorem dX11_compare_79 : decode cX11_compare 79 = .ok (.baload, 1) := gdX11_compare_55.2.2.2.2.2.2.2.2.2.2.2.1
theorem dX11_compare_80 : decode cX11_compare 80 = .ok (.bipush 61, 2) := gdX11_compare_55.2.2.2.2.2.2.2.2.2.2.2.2.1
theorem dX11_compare_82 : decode cX11_compare 82 = .ok (.if_icmp .ne 7, 3) := gdX11_compare_55.2.2.2.2.2.2.2.2.2.2.2.2.2.1
theorem dX11_compare_85 : decode cX11_compare 85 = .ok (.iconst 1, 1) := gdX11_compare_55.2.2.2.2.2.2.2.2.2.2.2.2.2.2.1
theorem dX11_compare_86 : decode cX11_compare 86 = .ok (.goto 4, 3) := gdX11_compare_55.2.2.2.2.2.2.2.2.2.2.2.2.2.2.2
theorem gdX11_compare_89 : (decode cX11_compare 89 = .ok (.iconst 0, 1)) ∧ (decode cX11_compare 90 = .ok (.istore_n 3, 1)) ∧ (decode cX11_compare 91 = .ok (.iload_n 3, 1)) ∧ (decode cX11_compare 92 = .ok (.ifCond .eq 13, 3)) ∧ (decode cX11_compare 95 = .ok (.aload_n 0, 1)) ∧ (decode cX11_compare 96 = .ok (.dup, 1)) ∧ (decode cX11_compare 97 = .ok (.getfield 103, 3)) ∧ (decode cX11_compare 100 = .ok (.iconst 1, 1)) ∧ (decode cX11_compare 101 = .ok (.iadd, 1)) ∧ (decode cX11_compare 102 = .ok (.putfield 103, 3)) ∧ (decode cX11_compare 105 = .ok (.aload_n 0, 1)) ∧ (decode cX11_compare 106 = .ok (.iload_n 2, 1)) ∧ (decode cX11_compare 107 = .ok (.invokevirtual 175, 3)) ∧ (decode cX11_compare 110 = .ok (.ifCond .ne 5, 3)) ∧ (decode cX11_compare 113 = .ok (.iconst 0, 1)) ∧ (decode cX11_compare 114 = .ok (.ireturn, 1)) := by decide +kernel
theorem dX11_compare_89 : decode cX11_compare 89 = .ok (.iconst 0, 1) := gdX11_compare_89.1
theorem dX11_compare_90 : decode cX11_compare 90 = .ok (.istore_n 3, 1) := gdX11_compare_89.2.1
theorem dX11_compare_91 : decode cX11_compare 91 = .ok (.iload_n 3, 1) := gdX11_compare_89.2.2.1
theorem dX11_compare_92 : decode cX11_compare 92 = .ok (.ifCond .eq 13, 3) := gdX11_compare_89.2.2.2.1
theorem dX11_compare_95 : decode cX11_compare 95 = .ok (.aload_n 0, 1) := gdX11_compare_89.2.2.2.2.1
theorem dX11_compare_96 : decode cX11_compare 96 = .ok (.dup, 1) := gdX11_compare_89.2.2.2.2.2.1
theorem dX11_compare_97 : decode cX11_compare 97 = .ok (.getfield 103, 3) := gdX11_compare_89.2.2.2.2.2.2.1
theorem dX11_compare_100 : decode cX11_compare 100 = .ok (.iconst 1, 1) := gdX11_compare_89.2.2.2.2.2.2.2.1
theorem dX11_compare_101 : decode cX11_compare 101 = .ok (.iadd, 1) := gdX11_compare_89.2.2.2.2.2.2.2.2.1
theorem dX11_compare_102 : decode cX11_compare 102 = .ok (.putfield 103, 3) := gdX11_compare_89.2.2.2.2.2.2.2.2.2.1
theorem dX11_compare_105 : decode cX11_compare 105 = .ok (.aload_n 0, 1) := gdX11_compare_89.2.2.2.2.2.2.2.2.2.2.1
theorem dX11_compare_106 : decode cX11_compare 106 = .ok (.iload_n 2, 1) := gdX11_compare_89.2.2.2.2.2.2.2.2.2.2.2.1
theorem dX11_compare_107 : decode cX11_compare 107 = .ok (.invokevirtual 175, 3) := gdX11_compare_89.2.2.2.2.2.2.2.2.2.2.2.2.1
theorem dX11_compare_110 : decode cX11_compare 110 = .ok (.ifCond .ne 5, 3) := gdX11_compare_89.2.2.2.2.2.2.2.2.2.2.2.2.2.1
theorem dX11_compare_113 : decode cX11_compare 113 = .ok (.iconst 0, 1) := gdX11_compare_89.2.2.2.2.2.2.2.2.2.2.2.2.2.2.1
theorem dX11_compare_114 : decode cX11_compare 114 = .ok (.ireturn, 1) := gdX11_compare_89.2.2.2.2.2.2.2.2.2.2.2.2.2.2.2
theorem gdX11_compare_115 : (decode cX11_compare 115 = .ok (.iload_n 1, 1)) ∧ (decode cX11_compare 116 = .ok (.bipush 60, 2)) ∧ (decode cX11_compare 118 = .ok (.if_icmp .ne 15, 3)) ∧ (decode cX11_compare 121 = .ok (.iload_n 3, 1)) ∧ (decode cX11_compare 122 = .ok (.ifCond .eq 7, 3)) ∧ (decode cX11_compare 125 = .ok (.iconst 1, 1)) ∧ (decode cX11_compare 126 = .ok (.goto 26, 3)) ∧ (decode cX11_compare 129 = .ok (.iconst 0, 1)) ∧ (decode cX11_compare 130 = .ok (.goto 22, 3)) ∧ (decode cX11_compare 133 = .ok (.iload_n 1, 1)) ∧ (decode cX11_compare 134 = .ok (.bipush 61, 2)) ∧ (decode cX11_compare 136 = .ok (.if_icmp .ne 7, 3)) ∧ (decode cX11_compare 139 = .ok (.iconst 2, 1)) ∧ (decode cX11_compare 140 = .ok (.goto 12, 3)) ∧ (decode cX11_compare 143 = .ok (.iload_n 3, 1)) ∧ (decode cX11_compare 144 = .ok (.ifCond .eq 7, 3)) := by decide +kernel
theorem dX11_compare_115 : decode cX11_compare 115 = .ok (.iload_n 1, 1) := gdX11_compare_115.1
theorem dX11_compare_116 : decode cX11_compare 116 = .ok (.bipush 60, 2) := gdX11_compare_115.2.1
theorem dX11_compare_118 : decode cX11_compare 118 = .ok (.if_icmp .ne 15, 3) := gdX11_compare_115.2.2.1
theorem dX11_compare_121 : decode cX11_compare 121 = .ok (.iload_n 3, 1) := gdX11_compare_115.2.2.2.1
theorem dX11_compare_122 : decode cX11_compare 122 = .ok (.ifCond .eq 7, 3) := gdX11_compare_115.2.2.2.2.1
theorem dX11_compare_125 : decode cX11_compare 125 = .ok (.iconst 1, 1) := gdX11_compare_115.2.2.2.2.2.1
theorem dX11_compare_126 : decode cX11_compare 126 = .ok (.goto 26, 3) := gdX11_compare_115.2.2.2.2.2.2.1
theorem dX11_compare_129 : decode cX11_compare 129 = .ok (.iconst 0, 1) := gdX11_compare_115.2.2.2.2.2.2.2.1
theorem dX11_compare_130 : decode cX11_compare 130 = .ok (.goto 22, 3) := gdX11_compare_115.2.2.2.2.2.2.2.2.1
theorem dX11_compare_133 : decode cX11_compare 133 = .ok (.iload_n 1, 1) := gdX11_compare_115.2.2.2.2.2.2.2.2.2.1
theorem dX11_compare_134 : decode cX11_compare 134 = .ok (.bipush 61, 2) := gdX11_compare_115.2.2.2.2.2.2.2.2.2.2.1
theorem dX11_compare_136 : decode cX11_compare 136 = .ok (.if_icmp .ne 7, 3) := gdX11_compare_115.2.2.2.2.2.2.2.2.2.2.2.1
theorem dX11_compare_139 : decode cX11_compare 139 = .ok (.iconst 2, 1) := gdX11_compare_115.2.2.2.2.2.2.2.2.2.2.2.2.1
theorem dX11_compare_140 : decode cX11_compare 140 = .ok (.goto 12, 3) := gdX11_compare_115.2.2.2.2.2.2.2.2.2.2.2.2.2.1
theorem dX11_compare_143 : decode cX11_compare 143 = .ok (.iload_n 3, 1) := gdX11_compare_115.2.2.2.2.2.2.2.2.2.2.2.2.2.2.1
theorem dX11_compare_144 : decode cX11_compare 144 = .ok (.ifCond .eq 7, 3) := gdX11_compare_115.2.2.2.2.2.2.2.2.2.2.2.2.2.2.2
theorem gdX11_compare_147 : (decode cX11_compare 147 = .ok (.iconst 3, 1)) ∧ (decode cX11_compare 148 = .ok (.goto 4, 3)) ∧ (decode cX11_compare 151 = .ok (.iconst 4, 1)) ∧ (decode cX11_compare 152 = .ok (.istore 4, 2)) ∧ (decode cX11_compare 154 = .ok (.aload_n 0, 1)) ∧ (decode cX11_compare 155 = .ok (.invokevirtual 188, 3)) ∧ (decode cX11_compare 158 = .ok (.ifCond .ne 5, 3)) ∧ (decode cX11_compare 161 = .ok (.iconst 0, 1)) ∧ (decode cX11_compare 162 = .ok (.ireturn, 1)) ∧ (decode cX11_compare 163 = .ok (.aload_n 0, 1)) ∧ (decode cX11_compare 164 = .ok (.bipush 6, 2)) ∧ (decode cX11_compare 166 = .ok (.iload 4, 2)) ∧ (decode cX11_compare 168 = .ok (.iadd, 1)) ∧ (decode cX11_compare 169 = .ok (.iconst 0, 1)) ∧ (decode cX11_compare 170 = .ok (.invokevirtual 167, 3)) ∧ (decode cX11_compare 173 = .ok (.iconst 1, 1)) := by decide +kernel
theorem dX11_compare_147 : decode cX11_compare 147 = .ok (.iconst 3, 1) := gdX11_compare_147.1
theorem dX11_compare_148 : decode cX11_compare 148 = .ok (.goto 4, 3) := gdX11_compare_147.2.1
theorem dX11_compare_151 : decode cX11_compare 151 = .ok (.iconst 4, 1) := gdX11_compare_147.2.2.1
theorem dX11_compare_152 : decode cX11_compare 152 = .ok (.istore 4, 2) := gdX11_compare_147.2.2.2.1
theorem dX11_compare_154 : decode cX11_compare 154 = .ok (.aload_n 0, 1) := gdX11_compare_147.2.2.2.2.1
theorem dX11_compare_155 : decode cX11_compare 155 = .ok (.invokevirtual 188, 3) := gdX11_compare_147.2.2.2.2.2.1
theorem dX11_compare_158 : decode cX11_compare 158 = .ok (.ifCond .ne 5, 3) := gdX11_compare_147.2.2.2.2.2.2.1
theorem dX11_compare_161 : decode cX11_compare 161 = .ok (.iconst 0, 1) := gdX11_compare_147.2.2.2.2.2.2.2.1
theorem dX11_compare_162 : decode cX11_compare 162 = .ok (.ireturn, 1) := gdX11_compare_147.2.2.2.2.2.2.2.2.1
theorem dX11_compare_163 : decode cX11_compare 163 = .ok (.aload_n 0, 1) := gdX11_compare_147.2.2.2.2.2.2.2.2.2.1
theorem dX11_compare_164 : decode cX11_compare 164 = .ok (.bipush 6, 2) := gdX11_compare_147.2.2.2.2.2.2.2.2.2.2.1
theorem dX11_compare_166 : decode cX11_compare 166 = .ok (.iload 4, 2) := gdX11_compare_147.2.2.2.2.2.2.2.2.2.2.2.1
theorem dX11_compare_168 : decode cX11_compare 168 = .ok (.iadd, 1) := gdX11_compare_147.2.2.2.2.2.2.2.2.2.2.2.2.1
theorem dX11_compare_169 : decode cX11_compare 169 = .ok (.iconst 0, 1) := gdX11_compare_147.2.2.2.2.2.2.2.2.2.2.2.2.2.1
theorem dX11_compare_170 : decode cX11_compare 170 = .ok (.invokevirtual 167, 3) := gdX11_compare_147.2.2.2.2.2.2.2.2.2.2.2.2.2.2.1
theorem dX11_compare_173 : decode cX11_compare 173 = .ok (.iconst 1, 1) := gdX11_compare_147.2.2.2.2.2.2.2.2.2.2.2.2.2.2.2
theorem dX11_compare_174 : decode cX11_compare 174 = .ok (.ireturn, 1) := by decide +kernel
theorem gdX11_fact_0 : (decode cX11_fact 0 = .ok (.iconst 1, 1)) ∧ (decode cX11_fact 1 = .ok (.istore_n 1, 1)) ∧ (decode cX11_fact 2 = .ok (.iload_n 1, 1)) ∧ (decode cX11_fact 3 = .ok (.ifCond .eq 72, 3)) ∧ (decode cX11_fact 6 = .ok (.iconst 0, 1)) ∧ (decode cX11_fact 7 = .ok (.istore_n 1, 1)) ∧ (decode cX11_fact 8 = .ok (.aload_n 0, 1)) ∧ (decode cX11_fact 9 = .ok (.invokevirtual 106, 3)) ∧ (decode cX11_fact 12 = .ok (.istore_n 2, 1)) ∧ (decode cX11_fact 13 = .ok (.aload_n 0, 1)) ∧ (decode cX11_fact 14 = .ok (.ldc2_w 191, 3)) ∧ (decode cX11_fact 17 = .ok (.invokevirtual 114, 3)) ∧ (decode cX11_fact 20 = .ok (.ifCond .eq 23, 3)) ∧ (decode cX11_fact 23 = .ok (.aload_n 0, 1)) ∧ (decode cX11_fact 24 = .ok (.bipush 11, 2)) ∧ (decode cX11_fact 26 = .ok (.invokevirtual 193, 3)) := by decide +kernel
theorem dX11_fact_0 : decode cX11_fact 0 = .ok (.iconst 1, 1) := gdX11_fact_0.1
theorem dX11_fact_1 : decode cX11_fact 1 = .ok (.istore_n 1, 1) := gdX11_fact_0.2.1
theorem dX11_fact_2 : decode cX11_fact 2 = .ok (.iload_n 1, 1) := gdX11_fact_0.2.2.1
theorem dX11_fact_3 : decode cX11_fact 3 = .ok (.ifCond .eq 72, 3) := gdX11_fact_0.2.2.2.1
theorem dX11_fact_6 : decode cX11_fact 6 = .ok (.iconst 0, 1) := gdX11_fact_0.2.2.2.2.1
theorem dX11_fact_7 : decode cX11_fact 7 = .ok (.istore_n 1, 1) := gdX11_fact_0.2.2.2.2.2.1
theorem dX11_fact_8 : decode cX11_fact 8 = .ok (.aload_n 0, 1) := gdX11_fact_0.2.2.2.2.2.2.1
theorem dX11_fact_9 : decode cX11_fact 9 = .ok (.invokevirtual 106, 3) := gdX11_fact_0.2.2.2.2.2.2.2.1
theorem dX11_fact_12 : decode cX11_fact 12 = .ok (.istore_n 2, 1) := gdX11_fact_0.2.2.2.2.2.2.2.2.1
theorem dX11_fact_13 : decode cX11_fact 13 = .ok (.aload_n 0, 1) := gdX11_fact_0.2.2.2.2.2.2.2.2.2.1
theorem dX11_fact_14 : decode cX11_fact 14 = .ok (.ldc2_w 191, 3) := gdX11_fact_0.2.2.2.2.2.2.2.2.2.2.1
theorem dX11_fact_17 : decode cX11_fact 17 = .ok (.invokevirtual 114, 3) := gdX11_fact_0.2.2.2.2.2.2.2.2.2.2.2.1
theorem dX11_fact_20 : decode cX11_fact 20 = .ok (.ifCond .eq 23, 3) := gdX11_fact_0.2.2.2.2.2.2.2.2.2.2.2.2.1
theorem dX11_fact_23 : decode cX11_fact 23 = .ok (.aload_n 0, 1) := gdX11_fact_0.2.2.2.2.2.2.2.2.2.2.2.2.2.1
theorem dX11_fact_24 : decode cX11_fact 24 = .ok (.bipush 11, 2) := gdX11_fact_0.2.2.2.2.2.2.2.2.2.2.2.2.2.2.1
theorem dX11_fact_26 : decode cX11_fact 26 = .ok (.invokevirtual 193, 3) := gdX11_fact_0.2.2.2.2.2.2.2.2.2.2.2.2.2.2.2
theorem gdX11_fact_29 : (decode cX11_fact 29 = .ok (.ifCond .ne 5, 3)) ∧ (decode cX11_fact 32 = .ok (.iconst 0, 1)) ∧ (decode cX11_fact 33 = .ok (.ireturn, 1)) ∧ (decode cX11_fact 34 = .ok (.aload_n 0, 1)) ∧ (decode cX11_fact 35 = .ok (.invokevirtual 118, 3)) ∧ (decode cX11_fact 38 = .ok (.iconst 1, 1)) ∧ (decode cX11_fact 39 = .ok (.istore_n 1, 1)) ∧ (decode cX11_fact 40 = .ok (.goto 32, 3)) ∧ (decode cX11_fact 43 = .ok (.iload_n 2, 1)) ∧ (decode cX11_fact 44 = .ok (.bipush 91, 2)) ∧ (decode cX11_fact 46 = .ok (.if_icmp .ne 26, 3)) ∧ (decode cX11_fact 49 = .ok (.aload_n 0, 1)) ∧ (decode cX11_fact 50 = .ok (.bipush 91, 2)) ∧ (decode cX11_fact 52 = .ok (.invokevirtual 193, 3)) ∧ (decode cX11_fact 55 = .ok (.ifCond .ne 5, 3)) ∧ (decode cX11_fact 58 = .ok (.iconst 0, 1)) := by decide +kernel
theorem dX11_fact_29 : decode cX11_fact 29 = .ok (.ifCond .ne 5, 3) := gdX11_fact_29.1
theorem dX11_fact_32 : decode cX11_fact 32 = .ok (.iconst 0, 1) := gdX11_fact_29.2.1
theorem dX11_fact_33 : decode cX11_fact 33 = .ok (.ireturn, 1) := gdX11_fact_29.2.2.1
theorem dX11_fact_34 : decode cX11_fact 34 = .ok (.aload_n 0, 1) := gdX11_fact_29.2.2.2.1
theorem dX11_fact_35 : decode cX11_fact 35 = .ok (.invokevirtual 118, 3) := gdX11_fact_29.2.2.2.2.1
theorem dX11_fact_38 : decode cX11_fact 38 = .ok (.iconst 1, 1) := gdX11_fact_29.2.2.2.2.2.1
theorem dX11_fact_39 : decode cX11_fact 39 = .ok (.istore_n 1, 1) := gdX11_fact_29.2.2.2.2.2.2.1
theorem dX11_fact_40 : decode cX11_fact 40 = .ok (.goto 32, 3) := gdX11_fact_29.2.2.2.2.2.2.2.1
theorem dX11_fact_43 : decode cX11_fact 43 = .ok (.iload_n 2, 1) := gdX11_fact_29.2.2.2.2.2.2.2.2.1
theorem dX11_fact_44 : decode cX11_fact 44 = .ok (.bipush 91, 2) := gdX11_fact_29.2.2.2.2.2.2.2.2.2.1
theorem dX11_fact_46 : decode cX11_fact 46 = .ok (.if_icmp .ne 26, 3) := gdX11_fact_29.2.2.2.2.2.2.2.2.2.2.1
theorem dX11_fact_49 : decode cX11_fact 49 = .ok (.aload_n 0, 1) := gdX11_fact_29.2.2.2.2.2.2.2.2.2.2.2.1
theorem dX11_fact_50 : decode cX11_fact 50 = .ok (.bipush 91, 2) := gdX11_fact_29.2.2.2.2.2.2.2.2.2.2.2.2.1
theorem dX11_fact_52 : decode cX11_fact 52 = .ok (.invokevirtual 193, 3) := gdX11_fact_29.2.2.2.2.2.2.2.2.2.2.2.2.2.1
theorem dX11_fact_55 : decode cX11_fact 55 = .ok (.ifCond .ne 5, 3) := gdX11_fact_29.2.2.2.2.2.2.2.2.2.2.2.2.2.2.1
theorem dX11_fact_58 : decode cX11_fact 58 = .ok (.iconst 0, 1) := gdX11_fact_29.2.2.2.2.2.2.2.2.2.2.2.2.2.2.2
theorem gdX11_fact_59 : (decode cX11_fact 59 = .ok (.ireturn, 1)) ∧ (decode cX11_fact 60 = .ok (.aload_n 0, 1)) ∧ (decode cX11_fact 61 = .ok (.dup, 1)) ∧ (decode cX11_fact 62 = .ok (.getfield 103, 3)) ∧ (decode cX11_fact 65 = .ok (.iconst 1, 1)) ∧ (decode cX11_fact 66 = .ok (.iadd, 1)) ∧ (decode cX11_fact 67 = .ok (.putfield 103, 3)) ∧ (decode cX11_fact 70 = .ok (.iconst 1, 1)) ∧ (decode cX11_fact 71 = .ok (.istore_n 1, 1)) ∧ (decode cX11_fact 72 = .ok (.goto (-70), 3)) ∧ (decode cX11_fact 75 = .ok (.aload_n 0, 1)) ∧ (decode cX11_fact 76 = .ok (.invokevirtual 196, 3)) ∧ (decode cX11_fact 79 = .ok (.ireturn, 1)) := by decide +kernel
theorem dX11_fact_59 : decode cX11_fact 59 = .ok (.ireturn, 1) := gdX11_fact_59.1
theorem dX11_fact_60 : decode cX11_fact 60 = .ok (.aload_n 0, 1) := gdX11_fact_59.2.1
theorem dX11_fact_61 : decode cX11_fact 61 = .ok (.dup, 1) := gdX11_fact_59.2.2.1
theorem dX11_fact_62 : decode cX11_fact 62 = .ok (.getfield 103, 3) := gdX11_fact_59.2.2.2.1
theorem dX11_fact_65 : decode cX11_fact 65 = .ok (.iconst 1, 1) := gdX11_fact_59.2.2.2.2.1
theorem dX11_fact_66 : decode cX11_fact 66 = .ok (.iadd, 1) := gdX11_fact_59.2.2.2.2.2.1
theorem dX11_fact_67 : decode cX11_fact 67 = .ok (.putfield 103, 3) := gdX11_fact_59.2.2.2.2.2.2.1
theorem dX11_fact_70 : decode cX11_fact 70 = .ok (.iconst 1, 1) := gdX11_fact_59.2.2.2.2.2.2.2.1
theorem dX11_fact_71 : decode cX11_fact 71 = .ok (.istore_n 1, 1) := gdX11_fact_59.2.2.2.2.2.2.2.2.1
theorem dX11_fact_72 : decode cX11_fact 72 = .ok (.goto (-70), 3) := gdX11_fact_59.2.2.2.2.2.2.2.2.2.1
theorem dX11_fact_75 : decode cX11_fact 75 = .ok (.aload_n 0, 1) := gdX11_fact_59.2.2.2.2.2.2.2.2.2.2.1
theorem dX11_fact_76 : decode cX11_fact 76 = .ok (.invokevirtual 196, 3) := gdX11_fact_59.2.2.2.2.2.2.2.2.2.2.2.1
theorem dX11_fact_79 : decode cX11_fact 79 = .ok (.ireturn, 1) := gdX11_fact_59.2.2.2.2.2.2.2.2.2.2.2.2
theorem gdX11_isInside_0 : (decode cX11_isInside 0 = .ok (.iconst 0, 1)) ∧ (decode cX11_isInside 1 = .ok (.istore_n 1, 1)) ∧ (decode cX11_isInside 2 = .ok (.iload_n 1, 1)) ∧ (decode cX11_isInside 3 = .ok (.aload_n 0, 1)) ∧ (decode cX11_isInside 4 = .ok (.getfield 160, 3)) ∧ (decode cX11_isInside 7 = .ok (.if_icmp .ge 22, 3)) ∧ (decode cX11_isInside 10 = .ok (.aload_n 0, 1)) ∧ (decode cX11_isInside 11 = .ok (.getfield 35, 3)) ∧ (decode cX11_isInside 14 = .ok (.iload_n 1, 1)) ∧ (decode cX11_isInside 15 = .ok (.iaload, 1)) ∧ (decode cX11_isInside 16 = .ok (.bipush 91, 2)) ∧ (decode cX11_isInside 18 = .ok (.if_icmp .ne 5, 3)) ∧ (decode cX11_isInside 21 = .ok (.iconst 1, 1)) ∧ (decode cX11_isInside 22 = .ok (.ireturn, 1)) ∧ (decode cX11_isInside 23 = .ok (.iinc 1 1, 3)) ∧ (decode cX11_isInside 26 = .ok (.goto (-24), 3)) := by decide +kernel
theorem dX11_isInside_0 : decode cX11_isInside 0 = .ok (.iconst 0, 1) := gdX11_isInside_0.1
theorem dX11_isInside_1 : decode cX11_isInside 1 = .ok (.istore_n 1, 1) := gdX11_isInside_0.2.1
theorem dX11_isInside_2 : decode cX11_isInside 2 = .ok (.iload_n 1, 1) := gdX11_isInside_0.2.2.1
theorem dX11_isInside_3 : decode cX11_isInside 3 = .ok (.aload_n 0, 1) := gdX11_isInside_0.2.2.2.1
theorem dX11_isInside_4 : decode cX11_isInside 4 = .ok (.getfield 160, 3) := gdX11_isInside_0.2.2.2.2.1
theorem dX11_isInside_7 : decode cX11_isInside 7 = .ok (.if_icmp .ge 22, 3) := gdX11_isInside_0.2.2.2.2.2.1
theorem dX11_isInside_10 : decode cX11_isInside 10 = .ok (.aload_n 0, 1) := gdX11_isInside_0.2.2.2.2.2.2.1
theorem dX11_isInside_11 : decode cX11_isInside 11 = .ok (.getfield 35, 3) := gdX11_isInside_0.2.2.2.2.2.2.2.1
theorem dX11_isInside_14 : decode cX11_isInside 14 = .ok (.iload_n 1, 1) := gdX11_isInside_0.2.2.2.2.2.2.2.2.1
theorem dX11_isInside_15 : decode cX11_isInside 15 = .ok (.iaload, 1) := gdX11_isInside_0.2.2.2.2.2.2.2.2.2.1
theorem dX11_isInside_16 : decode cX11_isInside 16 = .ok (.bipush 91, 2) := gdX11_isInside_0.2.2.2.2.2.2.2.2.2.2.1
theorem dX11_isInside_18 : decode cX11_isInside 18 = .ok (.if_icmp .ne 5, 3) := gdX11_isInside_0.2.2.2.2.2.2.2.2.2.2.2.1
theorem dX11_isInside_21 : decode cX11_isInside 21 = .ok (.iconst 1, 1) := gdX11_isInside_0.2.2.2.2.2.2.2.2.2.2.2.2.1
theorem dX11_isInside_22 : decode cX11_isInside 22 = .ok (.ireturn, 1) := gdX11_isInside_0.2.2.2.2.2.2.2.2.2.2.2.2.2.1
theorem dX11_isInside_23 : decode cX11_isInside 23 = .ok (.iinc 1 1, 3) := gdX11_isInside_0.2.2.2.2.2.2.2.2.2.2.2.2.2.2.1
theorem dX11_isInside_26 : decode cX11_isInside 26 = .ok (.goto (-24), 3) := gdX11_isInside_0.2.2.2.2.2.2.2.2.2.2.2.2.2.2.2
theorem gdX11_isInside_29 : (decode cX11_isInside 29 = .ok (.iconst 0, 1)) ∧ (decode cX11_isInside 30 = .ok (.ireturn, 1)) := by decide +kernel
theorem dX11_isInside_29 : decode cX11_isInside 29 = .ok (.iconst 0, 1) := gdX11_isInside_29.1
theorem dX11_isInside_30 : decode cX11_isInside 30 = .ok (.ireturn, 1) := gdX11_isInside_29.2
theorem gdX11_closes_0 : (decode cX11_closes 0 = .ok (.aload_n 0, 1)) ∧ (decode cX11_closes 1 = .ok (.iconst 3, 1)) ∧ (decode cX11_closes 2 = .ok (.invokevirtual 199, 3)) ∧ (decode cX11_closes 5 = .ok (.aload_n 0, 1)) ∧ (decode cX11_closes 6 = .ok (.invokevirtual 106, 3)) ∧ (decode cX11_closes 9 = .ok (.bipush 93, 2)) ∧ (decode cX11_closes 11 = .ok (.if_icmp .ne 53, 3)) ∧ (decode cX11_closes 14 = .ok (.aload_n 0, 1)) ∧ (decode cX11_closes 15 = .ok (.invokevirtual 202, 3)) ∧ (decode cX11_closes 18 = .ok (.ifCond .eq 46, 3)) ∧ (decode cX11_closes 21 = .ok (.aload_n 0, 1)) ∧ (decode cX11_closes 22 = .ok (.iconst 1, 1)) ∧ (decode cX11_closes 23 = .ok (.invokevirtual 199, 3)) ∧ (decode cX11_closes 26 = .ok (.aload_n 0, 1)) ∧ (decode cX11_closes 27 = .ok (.dup, 1)) ∧ (decode cX11_closes 28 = .ok (.getfield 160, 3)) := by decide +kernel
theorem dX11_closes_0 : decode cX11_closes 0 = .ok (.aload_n 0, 1) := gdX11_closes_0.1
theorem dX11_closes_1 : decode cX11_closes 1 = .ok (.iconst 3, 1) := gdX11_closes_0.2.1
theorem dX11_closes_2 : decode cX11_closes 2 = .ok (.invokevirtual 199, 3) := gdX11_closes_0.2.2.1
theorem dX11_closes_5 : decode cX11_closes 5 = .ok (.aload_n 0, 1) := gdX11_closes_0.2.2.2.1
theorem dX11_closes_6 : decode cX11_closes 6 = .ok (.invokevirtual 106, 3) := gdX11_closes_0.2.2.2.2.1
theorem dX11_closes_9 : decode cX11_closes 9 = .ok (.bipush 93, 2) := gdX11_closes_0.2.2.2.2.2.1
theorem dX11_closes_11 : decode cX11_closes 11 = .ok (.if_icmp .ne 53, 3) := gdX11_closes_0.2.2.2.2.2.2.1
theorem dX11_closes_14 : decode cX11_closes 14 = .ok (.aload_n 0, 1) := gdX11_closes_0.2.2.2.2.2.2.2.1
theorem dX11_closes_15 : decode cX11_closes 15 = .ok (.invokevirtual 202, 3) := gdX11_closes_0.2.2.2.2.2.2.2.2.1
theorem dX11_closes_18 : decode cX11_closes 18 = .ok (.ifCond .eq 46, 3) := gdX11_closes_0.2.2.2.2.2.2.2.2.2.1
theorem dX11_closes_21 : decode cX11_closes 21 = .ok (.aload_n 0, 1) := gdX11_closes_0.2.2.2.2.2.2.2.2.2.2.1
theorem dX11_closes_22 : decode cX11_closes 22 = .ok (.iconst 1, 1) := gdX11_closes_0.2.2.2.2.2.2.2.2.2.2.2.1
theorem dX11_closes_23 : decode cX11_closes 23 = .ok (.invokevirtual 199, 3) := gdX11_closes_0.2.2.2.2.2.2.2.2.2.2.2.2.1
theorem dX11_closes_26 : decode cX11_closes 26 = .ok (.aload_n 0, 1) := gdX11_closes_0.2.2.2.2.2.2.2.2.2.2.2.2.2.1
theorem dX11_closes_27 : decode cX11_closes 27 = .ok (.dup, 1) := gdX11_closes_0.2.2.2.2.2.2.2.2.2.2.2.2.2.2.1
theorem dX11_closes_28 : decode cX11_closes 28 = .ok (.getfield 160, 3) := gdX11_closes_0.2.2.2.2.2.2.2.2.2.2.2.2.2.2.2
theorem gdX11_closes_31 : (decode cX11_closes 31 = .ok (.iconst 1, 1)) ∧ (decode cX11_closes 32 = .ok (.isub, 1)) ∧ (decode cX11_closes 33 = .ok (.putfield 160, 3)) ∧ (decode cX11_closes 36 = .ok (.aload_n 0, 1)) ∧ (decode cX11_closes 37 = .ok (.dup, 1)) ∧ (decode cX11_closes 38 = .ok (.getfield 157, 3)) ∧ (decode cX11_closes 41 = .ok (.iconst 1, 1)) ∧ (decode cX11_closes 42 = .ok (.isub, 1)) ∧ (decode cX11_closes 43 = .ok (.putfield 157, 3)) ∧ (decode cX11_closes 46 = .ok (.aload_n 0, 1)) ∧ (decode cX11_closes 47 = .ok (.dup, 1)) ∧ (decode cX11_closes 48 = .ok (.getfield 103, 3)) ∧ (decode cX11_closes 51 = .ok (.iconst 1, 1)) ∧ (decode cX11_closes 52 = .ok (.iadd, 1)) ∧ (decode cX11_closes 53 = .ok (.putfield 103, 3)) ∧ (decode cX11_closes 56 = .ok (.aload_n 0, 1)) := by decide +kernel
theorem dX11_closes_31 : decode cX11_closes 31 = .ok (.iconst 1, 1) := gdX11_closes_31.1
theorem dX11_closes_32 : decode cX11_closes 32 = .ok (.isub, 1) := gdX11_closes_31.2.1
theorem dX11_closes_33 : decode cX11_closes 33 = .ok (.putfield 160, 3) := gdX11_closes_31.2.2.1
theorem dX11_closes_36 : decode cX11_closes 36 = .ok (.aload_n 0, 1) := gdX11_closes_31.2.2.2.1
theorem dX11_closes_37 : decode cX11_closes 37 = .ok (.dup, 1) := gdX11_closes_31.2.2.2.2.1
theorem dX11_closes_38 : decode cX11_closes 38 = .ok (.getfield 157, 3) := gdX11_closes_31.2.2.2.2.2.1
theorem dX11_closes_41 : decode cX11_closes 41 = .ok (.iconst 1, 1) := gdX11_closes_31.2.2.2.2.2.2.1
theorem dX11_closes_42 : decode cX11_closes 42 = .ok (.isub, 1) := gdX11_closes_31.2.2.2.2.2.2.2.1
theorem dX11_closes_43 : decode cX11_closes 43 = .ok (.putfield 157, 3) := gdX11_closes_31.2.2.2.2.2.2.2.2.1
theorem dX11_closes_46 : decode cX11_closes 46 = .ok (.aload_n 0, 1) := gdX11_closes_31.2.2.2.2.2.2.2.2.2.1
theorem dX11_closes_47 : decode cX11_closes 47 = .ok (.dup, 1) := gdX11_closes_31.2.2.2.2.2.2.2.2.2.2.1
theorem dX11_closes_48 : decode cX11_closes 48 = .ok (.getfield 103, 3) := gdX11_closes_31.2.2.2.2.2.2.2.2.2.2.2.1
theorem dX11_closes_51 : decode cX11_closes 51 = .ok (.iconst 1, 1) := gdX11_closes_31.2.2.2.2.2.2.2.2.2.2.2.2.1
theorem dX11_closes_52 : decode cX11_closes 52 = .ok (.iadd, 1) := gdX11_closes_31.2.2.2.2.2.2.2.2.2.2.2.2.2.1
theorem dX11_closes_53 : decode cX11_closes 53 = .ok (.putfield 103, 3) := gdX11_closes_31.2.2.2.2.2.2.2.2.2.2.2.2.2.2.1
theorem dX11_closes_56 : decode cX11_closes 56 = .ok (.aload_n 0, 1) := gdX11_closes_31.2.2.2.2.2.2.2.2.2.2.2.2.2.2.2
theorem gdX11_closes_57 : (decode cX11_closes 57 = .ok (.iconst 3, 1)) ∧ (decode cX11_closes 58 = .ok (.invokevirtual 199, 3)) ∧ (decode cX11_closes 61 = .ok (.goto (-56), 3)) ∧ (decode cX11_closes 64 = .ok (.return_, 1)) := by decide +kernel
theorem dX11_closes_57 : decode cX11_closes 57 = .ok (.iconst 3, 1) := gdX11_closes_57.1
theorem dX11_closes_58 : decode cX11_closes 58 = .ok (.invokevirtual 199, 3) := gdX11_closes_57.2.1
theorem dX11_closes_61 : decode cX11_closes 61 = .ok (.goto (-56), 3) := gdX11_closes_57.2.2.1
theorem dX11_closes_64 : decode cX11_closes 64 = .ok (.return_, 1) := gdX11_closes_57.2.2.2
theorem gdX11_tested_0 : (decode cX11_tested 0 = .ok (.aload_n 0, 1)) ∧ (decode cX11_tested 1 = .ok (.iconst 0, 1)) ∧ (decode cX11_tested 2 = .ok (.putfield 160, 3)) ∧ (decode cX11_tested 5 = .ok (.aload_n 0, 1)) ∧ (decode cX11_tested 6 = .ok (.iconst 0, 1)) ∧ (decode cX11_tested 7 = .ok (.putfield 157, 3)) ∧ (decode cX11_tested 10 = .ok (.iconst 1, 1)) ∧ (decode cX11_tested 11 = .ok (.istore_n 1, 1)) ∧ (decode cX11_tested 12 = .ok (.iload_n 1, 1)) ∧ (decode cX11_tested 13 = .ok (.ifCond .eq 99, 3)) ∧ (decode cX11_tested 16 = .ok (.aload_n 0, 1)) ∧ (decode cX11_tested 17 = .ok (.invokevirtual 205, 3)) ∧ (decode cX11_tested 20 = .ok (.ifCond .ne 5, 3)) ∧ (decode cX11_tested 23 = .ok (.iconst 0, 1)) ∧ (decode cX11_tested 24 = .ok (.ireturn, 1)) ∧ (decode cX11_tested 25 = .ok (.aload_n 0, 1)) := by decide +kernel
theorem dX11_tested_0 : decode cX11_tested 0 = .ok (.aload_n 0, 1) := gdX11_tested_0.1
theorem dX11_tested_1 : decode cX11_tested 1 = .ok (.iconst 0, 1) := gdX11_tested_0.2.1
theorem dX11_tested_2 : decode cX11_tested 2 = .ok (.putfield 160, 3) := gdX11_tested_0.2.2.1
theorem dX11_tested_5 : decode cX11_tested 5 = .ok (.aload_n 0, 1) := gdX11_tested_0.2.2.2.1
theorem dX11_tested_6 : decode cX11_tested 6 = .ok (.iconst 0, 1) := gdX11_tested_0.2.2.2.2.1
theorem dX11_tested_7 : decode cX11_tested 7 = .ok (.putfield 157, 3) := gdX11_tested_0.2.2.2.2.2.1
theorem dX11_tested_10 : decode cX11_tested 10 = .ok (.iconst 1, 1) := gdX11_tested_0.2.2.2.2.2.2.1
theorem dX11_tested_11 : decode cX11_tested 11 = .ok (.istore_n 1, 1) := gdX11_tested_0.2.2.2.2.2.2.2.1
theorem dX11_tested_12 : decode cX11_tested 12 = .ok (.iload_n 1, 1) := gdX11_tested_0.2.2.2.2.2.2.2.2.1
theorem dX11_tested_13 : decode cX11_tested 13 = .ok (.ifCond .eq 99, 3) := gdX11_tested_0.2.2.2.2.2.2.2.2.2.1
theorem dX11_tested_16 : decode cX11_tested 16 = .ok (.aload_n 0, 1) := gdX11_tested_0.2.2.2.2.2.2.2.2.2.2.1
theorem dX11_tested_17 : decode cX11_tested 17 = .ok (.invokevirtual 205, 3) := gdX11_tested_0.2.2.2.2.2.2.2.2.2.2.2.1
theorem dX11_tested_20 : decode cX11_tested 20 = .ok (.ifCond .ne 5, 3) := gdX11_tested_0.2.2.2.2.2.2.2.2.2.2.2.2.1
theorem dX11_tested_23 : decode cX11_tested 23 = .ok (.iconst 0, 1) := gdX11_tested_0.2.2.2.2.2.2.2.2.2.2.2.2.2.1
theorem dX11_tested_24 : decode cX11_tested 24 = .ok (.ireturn, 1) := gdX11_tested_0.2.2.2.2.2.2.2.2.2.2.2.2.2.2.1
theorem dX11_tested_25 : decode cX11_tested 25 = .ok (.aload_n 0, 1) := gdX11_tested_0.2.2.2.2.2.2.2.2.2.2.2.2.2.2.2
theorem gdX11_tested_26 : (decode cX11_tested 26 = .ok (.invokevirtual 208, 3)) ∧ (decode cX11_tested 29 = .ok (.aload_n 0, 1)) ∧ (decode cX11_tested 30 = .ok (.ldc2_w 211, 3)) ∧ (decode cX11_tested 33 = .ok (.invokevirtual 114, 3)) ∧ (decode cX11_tested 36 = .ok (.ifCond .ne 13, 3)) ∧ (decode cX11_tested 39 = .ok (.aload_n 0, 1)) ∧ (decode cX11_tested 40 = .ok (.ldc2_w 213, 3)) ∧ (decode cX11_tested 43 = .ok (.invokevirtual 114, 3)) ∧ (decode cX11_tested 46 = .ok (.ifCond .eq 7, 3)) ∧ (decode cX11_tested 49 = .ok (.iconst 1, 1)) ∧ (decode cX11_tested 50 = .ok (.goto 4, 3)) ∧ (decode cX11_tested 53 = .ok (.iconst 0, 1)) ∧ (decode cX11_tested 54 = .ok (.istore_n 1, 1)) ∧ (decode cX11_tested 55 = .ok (.iload_n 1, 1)) ∧ (decode cX11_tested 56 = .ok (.ifCond .eq (-44), 3)) ∧ (decode cX11_tested 59 = .ok (.aload_n 0, 1)) := by decide +kernel
theorem dX11_tested_26 : decode cX11_tested 26 = .ok (.invokevirtual 208, 3) := gdX11_tested_26.1
theorem dX11_tested_29 : decode cX11_tested 29 = .ok (.aload_n 0, 1) := gdX11_tested_26.2.1
theorem dX11_tested_30 : decode cX11_tested 30 = .ok (.ldc2_w 211, 3) := gdX11_tested_26.2.2.1
theorem dX11_tested_33 : decode cX11_tested 33 = .ok (.invokevirtual 114, 3) := gdX11_tested_26.2.2.2.1
theorem dX11_tested_36 : decode cX11_tested 36 = .ok (.ifCond .ne 13, 3) := gdX11_tested_26.2.2.2.2.1
theorem dX11_tested_39 : decode cX11_tested 39 = .ok (.aload_n 0, 1) := gdX11_tested_26.2.2.2.2.2.1
theorem dX11_tested_40 : decode cX11_tested 40 = .ok (.ldc2_w 213, 3) := gdX11_tested_26.2.2.2.2.2.2.1
theorem dX11_tested_43 : decode cX11_tested 43 = .ok (.invokevirtual 114, 3) := gdX11_tested_26.2.2.2.2.2.2.2.1
theorem dX11_tested_46 : decode cX11_tested 46 = .ok (.ifCond .eq 7, 3) := gdX11_tested_26.2.2.2.2.2.2.2.2.1
theorem dX11_tested_49 : decode cX11_tested 49 = .ok (.iconst 1, 1) := gdX11_tested_26.2.2.2.2.2.2.2.2.2.1
theorem dX11_tested_50 : decode cX11_tested 50 = .ok (.goto 4, 3) := gdX11_tested_26.2.2.2.2.2.2.2.2.2.2.1
theorem dX11_tested_53 : decode cX11_tested 53 = .ok (.iconst 0, 1) := gdX11_tested_26.2.2.2.2.2.2.2.2.2.2.2.1
theorem dX11_tested_54 : decode cX11_tested 54 = .ok (.istore_n 1, 1) := gdX11_tested_26.2.2.2.2.2.2.2.2.2.2.2.2.1
theorem dX11_tested_55 : decode cX11_tested 55 = .ok (.iload_n 1, 1) := gdX11_tested_26.2.2.2.2.2.2.2.2.2.2.2.2.2.1
theorem dX11_tested_56 : decode cX11_tested 56 = .ok (.ifCond .eq (-44), 3) := gdX11_tested_26.2.2.2.2.2.2.2.2.2.2.2.2.2.2.1
theorem dX11_tested_59 : decode cX11_tested 59 = .ok (.aload_n 0, 1) := gdX11_tested_26.2.2.2.2.2.2.2.2.2.2.2.2.2.2.2
theorem gdX11_tested_60 : (decode cX11_tested 60 = .ok (.ldc2_w 211, 3)) ∧ (decode cX11_tested 63 = .ok (.invokevirtual 114, 3)) ∧ (decode cX11_tested 66 = .ok (.ifCond .eq 8, 3)) ∧ (decode cX11_tested 69 = .ok (.bipush 12, 2)) ∧ (decode cX11_tested 71 = .ok (.goto 5, 3)) ∧ (decode cX11_tested 74 = .ok (.bipush 13, 2)) ∧ (decode cX11_tested 76 = .ok (.istore_n 2, 1)) ∧ (decode cX11_tested 77 = .ok (.aload_n 0, 1)) ∧ (decode cX11_tested 78 = .ok (.invokevirtual 118, 3)) ∧ (decode cX11_tested 81 = .ok (.aload_n 0, 1)) ∧ (decode cX11_tested 82 = .ok (.iload_n 2, 1)) ∧ (decode cX11_tested 83 = .ok (.invokestatic 163, 3)) ∧ (decode cX11_tested 86 = .ok (.invokevirtual 199, 3)) ∧ (decode cX11_tested 89 = .ok (.aload_n 0, 1)) ∧ (decode cX11_tested 90 = .ok (.getfield 35, 3)) ∧ (decode cX11_tested 93 = .ok (.aload_n 0, 1)) := by decide +kernel
theorem dX11_tested_60 : decode cX11_tested 60 = .ok (.ldc2_w 211, 3) := gdX11_tested_60.1
theorem dX11_tested_63 : decode cX11_tested 63 = .ok (.invokevirtual 114, 3) := gdX11_tested_60.2.1
theorem dX11_tested_66 : decode cX11_tested 66 = .ok (.ifCond .eq 8, 3) := gdX11_tested_60.2.2.1
theorem dX11_tested_69 : decode cX11_tested 69 = .ok (.bipush 12, 2) := gdX11_tested_60.2.2.2.1
theorem dX11_tested_71 : decode cX11_tested 71 = .ok (.goto 5, 3) := gdX11_tested_60.2.2.2.2.1
theorem dX11_tested_74 : decode cX11_tested 74 = .ok (.bipush 13, 2) := gdX11_tested_60.2.2.2.2.2.1
theorem dX11_tested_76 : decode cX11_tested 76 = .ok (.istore_n 2, 1) := gdX11_tested_60.2.2.2.2.2.2.1
theorem dX11_tested_77 : decode cX11_tested 77 = .ok (.aload_n 0, 1) := gdX11_tested_60.2.2.2.2.2.2.2.1
theorem dX11_tested_78 : decode cX11_tested 78 = .ok (.invokevirtual 118, 3) := gdX11_tested_60.2.2.2.2.2.2.2.2.1
theorem dX11_tested_81 : decode cX11_tested 81 = .ok (.aload_n 0, 1) := gdX11_tested_60.2.2.2.2.2.2.2.2.2.1
theorem dX11_tested_82 : decode cX11_tested 82 = .ok (.iload_n 2, 1) := gdX11_tested_60.2.2.2.2.2.2.2.2.2.2.1
theorem dX11_tested_83 : decode cX11_tested 83 = .ok (.invokestatic 163, 3) := gdX11_tested_60.2.2.2.2.2.2.2.2.2.2.2.1
theorem dX11_tested_86 : decode cX11_tested 86 = .ok (.invokevirtual 199, 3) := gdX11_tested_60.2.2.2.2.2.2.2.2.2.2.2.2.1
theorem dX11_tested_89 : decode cX11_tested 89 = .ok (.aload_n 0, 1) := gdX11_tested_60.2.2.2.2.2.2.2.2.2.2.2.2.2.1
theorem dX11_tested_90 : decode cX11_tested 90 = .ok (.getfield 35, 3) := gdX11_tested_60.2.2.2.2.2.2.2.2.2.2.2.2.2.2.1
theorem dX11_tested_93 : decode cX11_tested 93 = .ok (.aload_n 0, 1) := gdX11_tested_60.2.2.2.2.2.2.2.2.2.2.2.2.2.2.2
theorem gdX11_tested_94 : (decode cX11_tested 94 = .ok (.getfield 160, 3)) ∧ (decode cX11_tested 97 = .ok (.iload_n 2, 1)) ∧ (decode cX11_tested 98 = .ok (.iastore, 1)) ∧ (decode cX11_tested 99 = .ok (.aload_n 0, 1)) ∧ (decode cX11_tested 100 = .ok (.dup, 1)) ∧ (decode cX11_tested 101 = .ok (.getfield 160, 3)) ∧ (decode cX11_tested 104 = .ok (.iconst 1, 1)) ∧ (decode cX11_tested 105 = .ok (.iadd, 1)) ∧ (decode cX11_tested 106 = .ok (.putfield 160, 3)) ∧ (decode cX11_tested 109 = .ok (.goto (-97), 3)) ∧ (decode cX11_tested 112 = .ok (.aload_n 0, 1)) ∧ (decode cX11_tested 113 = .ok (.invokevirtual 202, 3)) ∧ (decode cX11_tested 116 = .ok (.ifCond .eq 18, 3)) ∧ (decode cX11_tested 119 = .ok (.aload_n 0, 1)) ∧ (decode cX11_tested 120 = .ok (.invokevirtual 106, 3)) ∧ (decode cX11_tested 123 = .ok (.pop, 1)) := by decide +kernel
theorem dX11_tested_94 : decode cX11_tested 94 = .ok (.getfield 160, 3) := gdX11_tested_94.1
theorem dX11_tested_97 : decode cX11_tested 97 = .ok (.iload_n 2, 1) := gdX11_tested_94.2.1
theorem dX11_tested_98 : decode cX11_tested 98 = .ok (.iastore, 1) := gdX11_tested_94.2.2.1
theorem dX11_tested_99 : decode cX11_tested 99 = .ok (.aload_n 0, 1) := gdX11_tested_94.2.2.2.1
theorem dX11_tested_100 : decode cX11_tested 100 = .ok (.dup, 1) := gdX11_tested_94.2.2.2.2.1
theorem dX11_tested_101 : decode cX11_tested 101 = .ok (.getfield 160, 3) := gdX11_tested_94.2.2.2.2.2.1
theorem dX11_tested_104 : decode cX11_tested 104 = .ok (.iconst 1, 1) := gdX11_tested_94.2.2.2.2.2.2.1
theorem dX11_tested_105 : decode cX11_tested 105 = .ok (.iadd, 1) := gdX11_tested_94.2.2.2.2.2.2.2.1
theorem dX11_tested_106 : decode cX11_tested 106 = .ok (.putfield 160, 3) := gdX11_tested_94.2.2.2.2.2.2.2.2.1
theorem dX11_tested_109 : decode cX11_tested 109 = .ok (.goto (-97), 3) := gdX11_tested_94.2.2.2.2.2.2.2.2.2.1
theorem dX11_tested_112 : decode cX11_tested 112 = .ok (.aload_n 0, 1) := gdX11_tested_94.2.2.2.2.2.2.2.2.2.2.1
theorem dX11_tested_113 : decode cX11_tested 113 = .ok (.invokevirtual 202, 3) := gdX11_tested_94.2.2.2.2.2.2.2.2.2.2.2.1
theorem dX11_tested_116 : decode cX11_tested 116 = .ok (.ifCond .eq 18, 3) := gdX11_tested_94.2.2.2.2.2.2.2.2.2.2.2.2.1
theorem dX11_tested_119 : decode cX11_tested 119 = .ok (.aload_n 0, 1) := gdX11_tested_94.2.2.2.2.2.2.2.2.2.2.2.2.2.1
theorem dX11_tested_120 : decode cX11_tested 120 = .ok (.invokevirtual 106, 3) := gdX11_tested_94.2.2.2.2.2.2.2.2.2.2.2.2.2.2.1
theorem dX11_tested_123 : decode cX11_tested 123 = .ok (.pop, 1) := gdX11_tested_94.2.2.2.2.2.2.2.2.2.2.2.2.2.2.2
theorem gdX11_tested_124 : (decode cX11_tested 124 = .ok (.aload_n 0, 1)) ∧ (decode cX11_tested 125 = .ok (.iconst 0, 1)) ∧ (decode cX11_tested 126 = .ok (.aload_n 0, 1)) ∧ (decode cX11_tested 127 = .ok (.getfield 103, 3)) ∧ (decode cX11_tested 130 = .ok (.invokevirtual 124, 3)) ∧ (decode cX11_tested 133 = .ok (.ireturn, 1)) ∧ (decode cX11_tested 134 = .ok (.aload_n 0, 1)) ∧ (decode cX11_tested 135 = .ok (.iconst 1, 1)) ∧ (decode cX11_tested 136 = .ok (.invokevirtual 199, 3)) ∧ (decode cX11_tested 139 = .ok (.iconst 1, 1)) ∧ (decode cX11_tested 140 = .ok (.ireturn, 1)) := by decide +kernel
theorem dX11_tested_124 : decode cX11_tested 124 = .ok (.aload_n 0, 1) := gdX11_tested_124.1
theorem dX11_tested_125 : decode cX11_tested 125 = .ok (.iconst 0, 1) := gdX11_tested_124.2.1
theorem dX11_tested_126 : decode cX11_tested 126 = .ok (.aload_n 0, 1) := gdX11_tested_124.2.2.1
theorem dX11_tested_127 : decode cX11_tested 127 = .ok (.getfield 103, 3) := gdX11_tested_124.2.2.2.1
theorem dX11_tested_130 : decode cX11_tested 130 = .ok (.invokevirtual 124, 3) := gdX11_tested_124.2.2.2.2.1
theorem dX11_tested_133 : decode cX11_tested 133 = .ok (.ireturn, 1) := gdX11_tested_124.2.2.2.2.2.1
theorem dX11_tested_134 : decode cX11_tested 134 = .ok (.aload_n 0, 1) := gdX11_tested_124.2.2.2.2.2.2.1
theorem dX11_tested_135 : decode cX11_tested 135 = .ok (.iconst 1, 1) := gdX11_tested_124.2.2.2.2.2.2.2.1
theorem dX11_tested_136 : decode cX11_tested 136 = .ok (.invokevirtual 199, 3) := gdX11_tested_124.2.2.2.2.2.2.2.2.1
theorem dX11_tested_139 : decode cX11_tested 139 = .ok (.iconst 1, 1) := gdX11_tested_124.2.2.2.2.2.2.2.2.2.1
theorem dX11_tested_140 : decode cX11_tested 140 = .ok (.ireturn, 1) := gdX11_tested_124.2.2.2.2.2.2.2.2.2.2
theorem gdX11_isToHere_0 : (decode cX11_isToHere 0 = .ok (.aload_n 0, 1)) ∧ (decode cX11_isToHere 1 = .ok (.invokevirtual 118, 3)) ∧ (decode cX11_isToHere 4 = .ok (.aload_n 0, 1)) ∧ (decode cX11_isToHere 5 = .ok (.iconst 0, 1)) ∧ (decode cX11_isToHere 6 = .ok (.bipush 9, 2)) ∧ (decode cX11_isToHere 8 = .ok (.invokevirtual 172, 3)) ∧ (decode cX11_isToHere 11 = .ok (.ifCond .ne 5, 3)) ∧ (decode cX11_isToHere 14 = .ok (.iconst 0, 1)) ∧ (decode cX11_isToHere 15 = .ok (.ireturn, 1)) ∧ (decode cX11_isToHere 16 = .ok (.bipush 36, 2)) ∧ (decode cX11_isToHere 18 = .ok (.aload_n 0, 1)) ∧ (decode cX11_isToHere 19 = .ok (.getfield 151, 3)) ∧ (decode cX11_isToHere 22 = .ok (.imul, 1)) ∧ (decode cX11_isToHere 23 = .ok (.iconst 3, 1)) ∧ (decode cX11_isToHere 24 = .ok (.aload_n 0, 1)) ∧ (decode cX11_isToHere 25 = .ok (.getfield 23, 3)) := by decide +kernel
theorem dX11_isToHere_0 : decode cX11_isToHere 0 = .ok (.aload_n 0, 1) := gdX11_isToHere_0.1
theorem dX11_isToHere_1 : decode cX11_isToHere 1 = .ok (.invokevirtual 118, 3) := gdX11_isToHere_0.2.1
theorem dX11_isToHere_4 : decode cX11_isToHere 4 = .ok (.aload_n 0, 1) := gdX11_isToHere_0.2.2.1
theorem dX11_isToHere_5 : decode cX11_isToHere 5 = .ok (.iconst 0, 1) := gdX11_isToHere_0.2.2.2.1
theorem dX11_isToHere_6 : decode cX11_isToHere 6 = .ok (.bipush 9, 2) := gdX11_isToHere_0.2.2.2.2.1
theorem dX11_isToHere_8 : decode cX11_isToHere 8 = .ok (.invokevirtual 172, 3) := gdX11_isToHere_0.2.2.2.2.2.1
theorem dX11_isToHere_11 : decode cX11_isToHere 11 = .ok (.ifCond .ne 5, 3) := gdX11_isToHere_0.2.2.2.2.2.2.1
theorem dX11_isToHere_14 : decode cX11_isToHere 14 = .ok (.iconst 0, 1) := gdX11_isToHere_0.2.2.2.2.2.2.2.1
theorem dX11_isToHere_15 : decode cX11_isToHere 15 = .ok (.ireturn, 1) := gdX11_isToHere_0.2.2.2.2.2.2.2.2.1
theorem dX11_isToHere_16 : decode cX11_isToHere 16 = .ok (.bipush 36, 2) := gdX11_isToHere_0.2.2.2.2.2.2.2.2.2.1
theorem dX11_isToHere_18 : decode cX11_isToHere 18 = .ok (.aload_n 0, 1) := gdX11_isToHere_0.2.2.2.2.2.2.2.2.2.2.1
theorem dX11_isToHere_19 : decode cX11_isToHere 19 = .ok (.getfield 151, 3) := gdX11_isToHere_0.2.2.2.2.2.2.2.2.2.2.2.1
theorem dX11_isToHere_22 : decode cX11_isToHere 22 = .ok (.imul, 1) := gdX11_isToHere_0.2.2.2.2.2.2.2.2.2.2.2.2.1
theorem dX11_isToHere_23 : decode cX11_isToHere 23 = .ok (.iconst 3, 1) := gdX11_isToHere_0.2.2.2.2.2.2.2.2.2.2.2.2.2.1
theorem dX11_isToHere_24 : decode cX11_isToHere 24 = .ok (.aload_n 0, 1) := gdX11_isToHere_0.2.2.2.2.2.2.2.2.2.2.2.2.2.2.1
theorem dX11_isToHere_25 : decode cX11_isToHere 25 = .ok (.getfield 23, 3) := gdX11_isToHere_0.2.2.2.2.2.2.2.2.2.2.2.2.2.2.2
theorem gdX11_isToHere_28 : (decode cX11_isToHere 28 = .ok (.aload_n 0, 1)) ∧ (decode cX11_isToHere 29 = .ok (.getfield 151, 3)) ∧ (decode cX11_isToHere 32 = .ok (.iaload, 1)) ∧ (decode cX11_isToHere 33 = .ok (.imul, 1)) ∧ (decode cX11_isToHere 34 = .ok (.iadd, 1)) ∧ (decode cX11_isToHere 35 = .ok (.istore_n 1, 1)) ∧ (decode cX11_isToHere 36 = .ok (.aload_n 0, 1)) ∧ (decode cX11_isToHere 37 = .ok (.getfield 20, 3)) ∧ (decode cX11_isToHere 40 = .ok (.iload_n 1, 1)) ∧ (decode cX11_isToHere 41 = .ok (.aload_n 0, 1)) ∧ (decode cX11_isToHere 42 = .ok (.getfield 128, 3)) ∧ (decode cX11_isToHere 45 = .ok (.iastore, 1)) ∧ (decode cX11_isToHere 46 = .ok (.aload_n 0, 1)) ∧ (decode cX11_isToHere 47 = .ok (.getfield 20, 3)) ∧ (decode cX11_isToHere 50 = .ok (.iload_n 1, 1)) ∧ (decode cX11_isToHere 51 = .ok (.iconst 1, 1)) := by decide +kernel
theorem dX11_isToHere_28 : decode cX11_isToHere 28 = .ok (.aload_n 0, 1) := gdX11_isToHere_28.1
theorem dX11_isToHere_29 : decode cX11_isToHere 29 = .ok (.getfield 151, 3) := gdX11_isToHere_28.2.1
theorem dX11_isToHere_32 : decode cX11_isToHere 32 = .ok (.iaload, 1) := gdX11_isToHere_28.2.2.1
theorem dX11_isToHere_33 : decode cX11_isToHere 33 = .ok (.imul, 1) := gdX11_isToHere_28.2.2.2.1
theorem dX11_isToHere_34 : decode cX11_isToHere 34 = .ok (.iadd, 1) := gdX11_isToHere_28.2.2.2.2.1
theorem dX11_isToHere_35 : decode cX11_isToHere 35 = .ok (.istore_n 1, 1) := gdX11_isToHere_28.2.2.2.2.2.1
theorem dX11_isToHere_36 : decode cX11_isToHere 36 = .ok (.aload_n 0, 1) := gdX11_isToHere_28.2.2.2.2.2.2.1
theorem dX11_isToHere_37 : decode cX11_isToHere 37 = .ok (.getfield 20, 3) := gdX11_isToHere_28.2.2.2.2.2.2.2.1
theorem dX11_isToHere_40 : decode cX11_isToHere 40 = .ok (.iload_n 1, 1) := gdX11_isToHere_28.2.2.2.2.2.2.2.2.1
theorem dX11_isToHere_41 : decode cX11_isToHere 41 = .ok (.aload_n 0, 1) := gdX11_isToHere_28.2.2.2.2.2.2.2.2.2.1
theorem dX11_isToHere_42 : decode cX11_isToHere 42 = .ok (.getfield 128, 3) := gdX11_isToHere_28.2.2.2.2.2.2.2.2.2.2.1
theorem dX11_isToHere_45 : decode cX11_isToHere 45 = .ok (.iastore, 1) := gdX11_isToHere_28.2.2.2.2.2.2.2.2.2.2.2.1
theorem dX11_isToHere_46 : decode cX11_isToHere 46 = .ok (.aload_n 0, 1) := gdX11_isToHere_28.2.2.2.2.2.2.2.2.2.2.2.2.1
theorem dX11_isToHere_47 : decode cX11_isToHere 47 = .ok (.getfield 20, 3) := gdX11_isToHere_28.2.2.2.2.2.2.2.2.2.2.2.2.2.1
theorem dX11_isToHere_50 : decode cX11_isToHere 50 = .ok (.iload_n 1, 1) := gdX11_isToHere_28.2.2.2.2.2.2.2.2.2.2.2.2.2.2.1
theorem dX11_isToHere_51 : decode cX11_isToHere 51 = .ok (.iconst 1, 1) := gdX11_isToHere_28.2.2.2.2.2.2.2.2.2.2.2.2.2.2.2
theorem gdX11_isToHere_52 : (decode cX11_isToHere 52 = .ok (.iadd, 1)) ∧ (decode cX11_isToHere 53 = .ok (.iconst (-1), 1)) ∧ (decode cX11_isToHere 54 = .ok (.iastore, 1)) ∧ (decode cX11_isToHere 55 = .ok (.aload_n 0, 1)) ∧ (decode cX11_isToHere 56 = .ok (.ldc2_w 215, 3)) ∧ (decode cX11_isToHere 59 = .ok (.invokevirtual 217, 3)) ∧ (decode cX11_isToHere 62 = .ok (.ifCond .eq 29, 3)) ∧ (decode cX11_isToHere 65 = .ok (.aload_n 0, 1)) ∧ (decode cX11_isToHere 66 = .ok (.getfield 20, 3)) ∧ (decode cX11_isToHere 69 = .ok (.iload_n 1, 1)) ∧ (decode cX11_isToHere 70 = .ok (.iconst 1, 1)) ∧ (decode cX11_isToHere 71 = .ok (.iadd, 1)) ∧ (decode cX11_isToHere 72 = .ok (.aload_n 0, 1)) ∧ (decode cX11_isToHere 73 = .ok (.getfield 17, 3)) ∧ (decode cX11_isToHere 76 = .ok (.aload_n 0, 1)) ∧ (decode cX11_isToHere 77 = .ok (.getfield 151, 3)) := by decide +kernel
theorem dX11_isToHere_52 : decode cX11_isToHere 52 = .ok (.iadd, 1) := gdX11_isToHere_52.1
theorem dX11_isToHere_53 : decode cX11_isToHere 53 = .ok (.iconst (-1), 1) := gdX11_isToHere_52.2.1
theorem dX11_isToHere_54 : decode cX11_isToHere 54 = .ok (.iastore, 1) := gdX11_isToHere_52.2.2.1
theorem dX11_isToHere_55 : decode cX11_isToHere 55 = .ok (.aload_n 0, 1) := gdX11_isToHere_52.2.2.2.1
theorem dX11_isToHere_56 : decode cX11_isToHere 56 = .ok (.ldc2_w 215, 3) := gdX11_isToHere_52.2.2.2.2.1
theorem dX11_isToHere_59 : decode cX11_isToHere 59 = .ok (.invokevirtual 217, 3) := gdX11_isToHere_52.2.2.2.2.2.1
theorem dX11_isToHere_62 : decode cX11_isToHere 62 = .ok (.ifCond .eq 29, 3) := gdX11_isToHere_52.2.2.2.2.2.2.1
theorem dX11_isToHere_65 : decode cX11_isToHere 65 = .ok (.aload_n 0, 1) := gdX11_isToHere_52.2.2.2.2.2.2.2.1
theorem dX11_isToHere_66 : decode cX11_isToHere 66 = .ok (.getfield 20, 3) := gdX11_isToHere_52.2.2.2.2.2.2.2.2.1
theorem dX11_isToHere_69 : decode cX11_isToHere 69 = .ok (.iload_n 1, 1) := gdX11_isToHere_52.2.2.2.2.2.2.2.2.2.1
theorem dX11_isToHere_70 : decode cX11_isToHere 70 = .ok (.iconst 1, 1) := gdX11_isToHere_52.2.2.2.2.2.2.2.2.2.2.1
theorem dX11_isToHere_71 : decode cX11_isToHere 71 = .ok (.iadd, 1) := gdX11_isToHere_52.2.2.2.2.2.2.2.2.2.2.2.1
theorem dX11_isToHere_72 : decode cX11_isToHere 72 = .ok (.aload_n 0, 1) := gdX11_isToHere_52.2.2.2.2.2.2.2.2.2.2.2.2.1
theorem dX11_isToHere_73 : decode cX11_isToHere 73 = .ok (.getfield 17, 3) := gdX11_isToHere_52.2.2.2.2.2.2.2.2.2.2.2.2.2.1
theorem dX11_isToHere_76 : decode cX11_isToHere 76 = .ok (.aload_n 0, 1) := gdX11_isToHere_52.2.2.2.2.2.2.2.2.2.2.2.2.2.2.1
theorem dX11_isToHere_77 : decode cX11_isToHere 77 = .ok (.getfield 151, 3) := gdX11_isToHere_52.2.2.2.2.2.2.2.2.2.2.2.2.2.2.2
theorem gdX11_isToHere_80 : (decode cX11_isToHere 80 = .ok (.iaload, 1)) ∧ (decode cX11_isToHere 81 = .ok (.iastore, 1)) ∧ (decode cX11_isToHere 82 = .ok (.aload_n 0, 1)) ∧ (decode cX11_isToHere 83 = .ok (.invokevirtual 220, 3)) ∧ (decode cX11_isToHere 86 = .ok (.ifCond .ne 5, 3)) ∧ (decode cX11_isToHere 89 = .ok (.iconst 0, 1)) ∧ (decode cX11_isToHere 90 = .ok (.ireturn, 1)) ∧ (decode cX11_isToHere 91 = .ok (.aload_n 0, 1)) ∧ (decode cX11_isToHere 92 = .ok (.getfield 20, 3)) ∧ (decode cX11_isToHere 95 = .ok (.iload_n 1, 1)) ∧ (decode cX11_isToHere 96 = .ok (.iconst 2, 1)) ∧ (decode cX11_isToHere 97 = .ok (.iadd, 1)) ∧ (decode cX11_isToHere 98 = .ok (.aload_n 0, 1)) ∧ (decode cX11_isToHere 99 = .ok (.getfield 17, 3)) ∧ (decode cX11_isToHere 102 = .ok (.aload_n 0, 1)) ∧ (decode cX11_isToHere 103 = .ok (.getfield 151, 3)) := by decide +kernel
theorem dX11_isToHere_80 : decode cX11_isToHere 80 = .ok (.iaload, 1) := gdX11_isToHere_80.1
theorem dX11_isToHere_81 : decode cX11_isToHere 81 = .ok (.iastore, 1) := gdX11_isToHere_80.2.1
theorem dX11_isToHere_82 : decode cX11_isToHere 82 = .ok (.aload_n 0, 1) := gdX11_isToHere_80.2.2.1
theorem dX11_isToHere_83 : decode cX11_isToHere 83 = .ok (.invokevirtual 220, 3) := gdX11_isToHere_80.2.2.2.1
theorem dX11_isToHere_86 : decode cX11_isToHere 86 = .ok (.ifCond .ne 5, 3) := gdX11_isToHere_80.2.2.2.2.1
theorem dX11_isToHere_89 : decode cX11_isToHere 89 = .ok (.iconst 0, 1) := gdX11_isToHere_80.2.2.2.2.2.1
theorem dX11_isToHere_90 : decode cX11_isToHere 90 = .ok (.ireturn, 1) := gdX11_isToHere_80.2.2.2.2.2.2.1
theorem dX11_isToHere_91 : decode cX11_isToHere 91 = .ok (.aload_n 0, 1) := gdX11_isToHere_80.2.2.2.2.2.2.2.1
theorem dX11_isToHere_92 : decode cX11_isToHere 92 = .ok (.getfield 20, 3) := gdX11_isToHere_80.2.2.2.2.2.2.2.2.1
theorem dX11_isToHere_95 : decode cX11_isToHere 95 = .ok (.iload_n 1, 1) := gdX11_isToHere_80.2.2.2.2.2.2.2.2.2.1
theorem dX11_isToHere_96 : decode cX11_isToHere 96 = .ok (.iconst 2, 1) := gdX11_isToHere_80.2.2.2.2.2.2.2.2.2.2.1
theorem dX11_isToHere_97 : decode cX11_isToHere 97 = .ok (.iadd, 1) := gdX11_isToHere_80.2.2.2.2.2.2.2.2.2.2.2.1
theorem dX11_isToHere_98 : decode cX11_isToHere 98 = .ok (.aload_n 0, 1) := gdX11_isToHere_80.2.2.2.2.2.2.2.2.2.2.2.2.1
theorem dX11_isToHere_99 : decode cX11_isToHere 99 = .ok (.getfield 17, 3) := gdX11_isToHere_80.2.2.2.2.2.2.2.2.2.2.2.2.2.1
theorem dX11_isToHere_102 : decode cX11_isToHere 102 = .ok (.aload_n 0, 1) := gdX11_isToHere_80.2.2.2.2.2.2.2.2.2.2.2.2.2.2.1
theorem dX11_isToHere_103 : decode cX11_isToHere 103 = .ok (.getfield 151, 3) := gdX11_isToHere_80.2.2.2.2.2.2.2.2.2.2.2.2.2.2.2
theorem gdX11_isToHere_106 : (decode cX11_isToHere 106 = .ok (.iaload, 1)) ∧ (decode cX11_isToHere 107 = .ok (.iastore, 1)) ∧ (decode cX11_isToHere 108 = .ok (.aload_n 0, 1)) ∧ (decode cX11_isToHere 109 = .ok (.getfield 23, 3)) ∧ (decode cX11_isToHere 112 = .ok (.aload_n 0, 1)) ∧ (decode cX11_isToHere 113 = .ok (.getfield 151, 3)) ∧ (decode cX11_isToHere 116 = .ok (.dup2, 1)) ∧ (decode cX11_isToHere 117 = .ok (.iaload, 1)) ∧ (decode cX11_isToHere 118 = .ok (.iconst 1, 1)) ∧ (decode cX11_isToHere 119 = .ok (.iadd, 1)) ∧ (decode cX11_isToHere 120 = .ok (.iastore, 1)) ∧ (decode cX11_isToHere 121 = .ok (.iconst 1, 1)) ∧ (decode cX11_isToHere 122 = .ok (.ireturn, 1)) := by decide +kernel
theorem dX11_isToHere_106 : decode cX11_isToHere 106 = .ok (.iaload, 1) := gdX11_isToHere_106.1
theorem dX11_isToHere_107 : decode cX11_isToHere 107 = .ok (.iastore, 1) := gdX11_isToHere_106.2.1
theorem dX11_isToHere_108 : decode cX11_isToHere 108 = .ok (.aload_n 0, 1) := gdX11_isToHere_106.2.2.1
theorem dX11_isToHere_109 : decode cX11_isToHere 109 = .ok (.getfield 23, 3) := gdX11_isToHere_106.2.2.2.1
theorem dX11_isToHere_112 : decode cX11_isToHere 112 = .ok (.aload_n 0, 1) := gdX11_isToHere_106.2.2.2.2.1
theorem dX11_isToHere_113 : decode cX11_isToHere 113 = .ok (.getfield 151, 3) := gdX11_isToHere_106.2.2.2.2.2.1
theorem dX11_isToHere_116 : decode cX11_isToHere 116 = .ok (.dup2, 1) := gdX11_isToHere_106.2.2.2.2.2.2.1
theorem dX11_isToHere_117 : decode cX11_isToHere 117 = .ok (.iaload, 1) := gdX11_isToHere_106.2.2.2.2.2.2.2.1
theorem dX11_isToHere_118 : decode cX11_isToHere 118 = .ok (.iconst 1, 1) := gdX11_isToHere_106.2.2.2.2.2.2.2.2.1
theorem dX11_isToHere_119 : decode cX11_isToHere 119 = .ok (.iadd, 1) := gdX11_isToHere_106.2.2.2.2.2.2.2.2.2.1
theorem dX11_isToHere_120 : decode cX11_isToHere 120 = .ok (.iastore, 1) := gdX11_isToHere_106.2.2.2.2.2.2.2.2.2.2.1
theorem dX11_isToHere_121 : decode cX11_isToHere 121 = .ok (.iconst 1, 1) := gdX11_isToHere_106.2.2.2.2.2.2.2.2.2.2.2.1
theorem dX11_isToHere_122 : decode cX11_isToHere 122 = .ok (.ireturn, 1) := gdX11_isToHere_106.2.2.2.2.2.2.2.2.2.2.2.2
theorem gdX11_isFloorHere_0 : (decode cX11_isFloorHere 0 = .ok (.aload_n 0, 1)) ∧ (decode cX11_isFloorHere 1 = .ok (.getfield 223, 3)) ∧ (decode cX11_isFloorHere 4 = .ok (.bipush 10, 2)) ∧ (decode cX11_isFloorHere 6 = .ok (.if_icmp .ne 10, 3)) ∧ (decode cX11_isFloorHere 9 = .ok (.aload_n 0, 1)) ∧ (decode cX11_isFloorHere 10 = .ok (.iconst 4, 1)) ∧ (decode cX11_isFloorHere 11 = .ok (.iload_n 1, 1)) ∧ (decode cX11_isFloorHere 12 = .ok (.invokevirtual 124, 3)) ∧ (decode cX11_isFloorHere 15 = .ok (.ireturn, 1)) ∧ (decode cX11_isFloorHere 16 = .ok (.aload_n 0, 1)) ∧ (decode cX11_isFloorHere 17 = .ok (.invokevirtual 118, 3)) ∧ (decode cX11_isFloorHere 20 = .ok (.iconst 0, 1)) ∧ (decode cX11_isFloorHere 21 = .ok (.istore_n 2, 1)) ∧ (decode cX11_isFloorHere 22 = .ok (.iload_n 2, 1)) ∧ (decode cX11_isFloorHere 23 = .ok (.iconst 2, 1)) ∧ (decode cX11_isFloorHere 24 = .ok (.if_icmp .ge 38, 3)) := by decide +kernel
theorem dX11_isFloorHere_0 : decode cX11_isFloorHere 0 = .ok (.aload_n 0, 1) := gdX11_isFloorHere_0.1
theorem dX11_isFloorHere_1 : decode cX11_isFloorHere 1 = .ok (.getfield 223, 3) := gdX11_isFloorHere_0.2.1
theorem dX11_isFloorHere_4 : decode cX11_isFloorHere 4 = .ok (.bipush 10, 2) := gdX11_isFloorHere_0.2.2.1
theorem dX11_isFloorHere_6 : decode cX11_isFloorHere 6 = .ok (.if_icmp .ne 10, 3) := gdX11_isFloorHere_0.2.2.2.1
theorem dX11_isFloorHere_9 : decode cX11_isFloorHere 9 = .ok (.aload_n 0, 1) := gdX11_isFloorHere_0.2.2.2.2.1
theorem dX11_isFloorHere_10 : decode cX11_isFloorHere 10 = .ok (.iconst 4, 1) := gdX11_isFloorHere_0.2.2.2.2.2.1
theorem dX11_isFloorHere_11 : decode cX11_isFloorHere 11 = .ok (.iload_n 1, 1) := gdX11_isFloorHere_0.2.2.2.2.2.2.1
theorem dX11_isFloorHere_12 : decode cX11_isFloorHere 12 = .ok (.invokevirtual 124, 3) := gdX11_isFloorHere_0.2.2.2.2.2.2.2.1
theorem dX11_isFloorHere_15 : decode cX11_isFloorHere 15 = .ok (.ireturn, 1) := gdX11_isFloorHere_0.2.2.2.2.2.2.2.2.1
theorem dX11_isFloorHere_16 : decode cX11_isFloorHere 16 = .ok (.aload_n 0, 1) := gdX11_isFloorHere_0.2.2.2.2.2.2.2.2.2.1
theorem dX11_isFloorHere_17 : decode cX11_isFloorHere 17 = .ok (.invokevirtual 118, 3) := gdX11_isFloorHere_0.2.2.2.2.2.2.2.2.2.2.1
theorem dX11_isFloorHere_20 : decode cX11_isFloorHere 20 = .ok (.iconst 0, 1) := gdX11_isFloorHere_0.2.2.2.2.2.2.2.2.2.2.2.1
theorem dX11_isFloorHere_21 : decode cX11_isFloorHere 21 = .ok (.istore_n 2, 1) := gdX11_isFloorHere_0.2.2.2.2.2.2.2.2.2.2.2.2.1
theorem dX11_isFloorHere_22 : decode cX11_isFloorHere 22 = .ok (.iload_n 2, 1) := gdX11_isFloorHere_0.2.2.2.2.2.2.2.2.2.2.2.2.2.1
theorem dX11_isFloorHere_23 : decode cX11_isFloorHere 23 = .ok (.iconst 2, 1) := gdX11_isFloorHere_0.2.2.2.2.2.2.2.2.2.2.2.2.2.2.1
theorem dX11_isFloorHere_24 : decode cX11_isFloorHere 24 = .ok (.if_icmp .ge 38, 3) := gdX11_isFloorHere_0.2.2.2.2.2.2.2.2.2.2.2.2.2.2.2
theorem gdX11_isFloorHere_27 : (decode cX11_isFloorHere 27 = .ok (.aload_n 0, 1)) ∧ (decode cX11_isFloorHere 28 = .ok (.iconst 1, 1)) ∧ (decode cX11_isFloorHere 29 = .ok (.bipush 20, 2)) ∧ (decode cX11_isFloorHere 31 = .ok (.invokevirtual 172, 3)) ∧ (decode cX11_isFloorHere 34 = .ok (.ifCond .ne 5, 3)) ∧ (decode cX11_isFloorHere 37 = .ok (.iconst 0, 1)) ∧ (decode cX11_isFloorHere 38 = .ok (.ireturn, 1)) ∧ (decode cX11_isFloorHere 39 = .ok (.aload_n 0, 1)) ∧ (decode cX11_isFloorHere 40 = .ok (.getfield 26, 3)) ∧ (decode cX11_isFloorHere 43 = .ok (.iconst 2, 1)) ∧ (decode cX11_isFloorHere 44 = .ok (.aload_n 0, 1)) ∧ (decode cX11_isFloorHere 45 = .ok (.getfield 223, 3)) ∧ (decode cX11_isFloorHere 48 = .ok (.imul, 1)) ∧ (decode cX11_isFloorHere 49 = .ok (.iload_n 2, 1)) ∧ (decode cX11_isFloorHere 50 = .ok (.iadd, 1)) ∧ (decode cX11_isFloorHere 51 = .ok (.aload_n 0, 1)) := by decide +kernel
theorem dX11_isFloorHere_27 : decode cX11_isFloorHere 27 = .ok (.aload_n 0, 1) := gdX11_isFloorHere_27.1
theorem dX11_isFloorHere_28 : decode cX11_isFloorHere 28 = .ok (.iconst 1, 1) := gdX11_isFloorHere_27.2.1
theorem dX11_isFloorHere_29 : decode cX11_isFloorHere 29 = .ok (.bipush 20, 2) := gdX11_isFloorHere_27.2.2.1
theorem dX11_isFloorHere_31 : decode cX11_isFloorHere 31 = .ok (.invokevirtual 172, 3) := gdX11_isFloorHere_27.2.2.2.1
theorem dX11_isFloorHere_34 : decode cX11_isFloorHere 34 = .ok (.ifCond .ne 5, 3) := gdX11_isFloorHere_27.2.2.2.2.1
theorem dX11_isFloorHere_37 : decode cX11_isFloorHere 37 = .ok (.iconst 0, 1) := gdX11_isFloorHere_27.2.2.2.2.2.1
theorem dX11_isFloorHere_38 : decode cX11_isFloorHere 38 = .ok (.ireturn, 1) := gdX11_isFloorHere_27.2.2.2.2.2.2.1
theorem dX11_isFloorHere_39 : decode cX11_isFloorHere 39 = .ok (.aload_n 0, 1) := gdX11_isFloorHere_27.2.2.2.2.2.2.2.1
theorem dX11_isFloorHere_40 : decode cX11_isFloorHere 40 = .ok (.getfield 26, 3) := gdX11_isFloorHere_27.2.2.2.2.2.2.2.2.1
theorem dX11_isFloorHere_43 : decode cX11_isFloorHere 43 = .ok (.iconst 2, 1) := gdX11_isFloorHere_27.2.2.2.2.2.2.2.2.2.1
theorem dX11_isFloorHere_44 : decode cX11_isFloorHere 44 = .ok (.aload_n 0, 1) := gdX11_isFloorHere_27.2.2.2.2.2.2.2.2.2.2.1
theorem dX11_isFloorHere_45 : decode cX11_isFloorHere 45 = .ok (.getfield 223, 3) := gdX11_isFloorHere_27.2.2.2.2.2.2.2.2.2.2.2.1
theorem dX11_isFloorHere_48 : decode cX11_isFloorHere 48 = .ok (.imul, 1) := gdX11_isFloorHere_27.2.2.2.2.2.2.2.2.2.2.2.2.1
theorem dX11_isFloorHere_49 : decode cX11_isFloorHere 49 = .ok (.iload_n 2, 1) := gdX11_isFloorHere_27.2.2.2.2.2.2.2.2.2.2.2.2.2.1
theorem dX11_isFloorHere_50 : decode cX11_isFloorHere 50 = .ok (.iadd, 1) := gdX11_isFloorHere_27.2.2.2.2.2.2.2.2.2.2.2.2.2.2.1
theorem dX11_isFloorHere_51 : decode cX11_isFloorHere 51 = .ok (.aload_n 0, 1) := gdX11_isFloorHere_27.2.2.2.2.2.2.2.2.2.2.2.2.2.2.2
theorem gdX11_isFloorHere_52 : (decode cX11_isFloorHere 52 = .ok (.getfield 128, 3)) ∧ (decode cX11_isFloorHere 55 = .ok (.iastore, 1)) ∧ (decode cX11_isFloorHere 56 = .ok (.iinc 2 1, 3)) ∧ (decode cX11_isFloorHere 59 = .ok (.goto (-37), 3)) ∧ (decode cX11_isFloorHere 62 = .ok (.aload_n 0, 1)) ∧ (decode cX11_isFloorHere 63 = .ok (.dup, 1)) ∧ (decode cX11_isFloorHere 64 = .ok (.getfield 223, 3)) ∧ (decode cX11_isFloorHere 67 = .ok (.iconst 1, 1)) ∧ (decode cX11_isFloorHere 68 = .ok (.iadd, 1)) ∧ (decode cX11_isFloorHere 69 = .ok (.putfield 223, 3)) ∧ (decode cX11_isFloorHere 72 = .ok (.iconst 1, 1)) ∧ (decode cX11_isFloorHere 73 = .ok (.ireturn, 1)) := by decide +kernel
theorem dX11_isFloorHere_52 : decode cX11_isFloorHere 52 = .ok (.getfield 128, 3) := gdX11_isFloorHere_52.1
theorem dX11_isFloorHere_55 : decode cX11_isFloorHere 55 = .ok (.iastore, 1) := gdX11_isFloorHere_52.2.1
theorem dX11_isFloorHere_56 : decode cX11_isFloorHere 56 = .ok (.iinc 2 1, 3) := gdX11_isFloorHere_52.2.2.1
theorem dX11_isFloorHere_59 : decode cX11_isFloorHere 59 = .ok (.goto (-37), 3) := gdX11_isFloorHere_52.2.2.2.1
theorem dX11_isFloorHere_62 : decode cX11_isFloorHere 62 = .ok (.aload_n 0, 1) := gdX11_isFloorHere_52.2.2.2.2.1
theorem dX11_isFloorHere_63 : decode cX11_isFloorHere 63 = .ok (.dup, 1) := gdX11_isFloorHere_52.2.2.2.2.2.1
theorem dX11_isFloorHere_64 : decode cX11_isFloorHere 64 = .ok (.getfield 223, 3) := gdX11_isFloorHere_52.2.2.2.2.2.2.1
theorem dX11_isFloorHere_67 : decode cX11_isFloorHere 67 = .ok (.iconst 1, 1) := gdX11_isFloorHere_52.2.2.2.2.2.2.2.1
theorem dX11_isFloorHere_68 : decode cX11_isFloorHere 68 = .ok (.iadd, 1) := gdX11_isFloorHere_52.2.2.2.2.2.2.2.2.1
theorem dX11_isFloorHere_69 : decode cX11_isFloorHere 69 = .ok (.putfield 223, 3) := gdX11_isFloorHere_52.2.2.2.2.2.2.2.2.2.1
theorem dX11_isFloorHere_72 : decode cX11_isFloorHere 72 = .ok (.iconst 1, 1) := gdX11_isFloorHere_52.2.2.2.2.2.2.2.2.2.2.1
theorem dX11_isFloorHere_73 : decode cX11_isFloorHere 73 = .ok (.ireturn, 1) := gdX11_isFloorHere_52.2.2.2.2.2.2.2.2.2.2.2
theorem gdX11_isStairHere_0 : (decode cX11_isStairHere 0 = .ok (.aload_n 0, 1)) ∧ (decode cX11_isStairHere 1 = .ok (.getfield 226, 3)) ∧ (decode cX11_isStairHere 4 = .ok (.bipush 12, 2)) ∧ (decode cX11_isStairHere 6 = .ok (.if_icmp .ne 10, 3)) ∧ (decode cX11_isStairHere 9 = .ok (.aload_n 0, 1)) ∧ (decode cX11_isStairHere 10 = .ok (.iconst 4, 1)) ∧ (decode cX11_isStairHere 11 = .ok (.iload_n 1, 1)) ∧ (decode cX11_isStairHere 12 = .ok (.invokevirtual 124, 3)) ∧ (decode cX11_isStairHere 15 = .ok (.ireturn, 1)) ∧ (decode cX11_isStairHere 16 = .ok (.aload_n 0, 1)) ∧ (decode cX11_isStairHere 17 = .ok (.invokevirtual 118, 3)) ∧ (decode cX11_isStairHere 20 = .ok (.iconst 5, 1)) ∧ (decode cX11_isStairHere 21 = .ok (.aload_n 0, 1)) ∧ (decode cX11_isStairHere 22 = .ok (.getfield 226, 3)) ∧ (decode cX11_isStairHere 25 = .ok (.imul, 1)) ∧ (decode cX11_isStairHere 26 = .ok (.istore_n 2, 1)) := by decide +kernel
theorem dX11_isStairHere_0 : decode cX11_isStairHere 0 = .ok (.aload_n 0, 1) := gdX11_isStairHere_0.1
theorem dX11_isStairHere_1 : decode cX11_isStairHere 1 = .ok (.getfield 226, 3) := gdX11_isStairHere_0.2.1
theorem dX11_isStairHere_4 : decode cX11_isStairHere 4 = .ok (.bipush 12, 2) := gdX11_isStairHere_0.2.2.1
theorem dX11_isStairHere_6 : decode cX11_isStairHere 6 = .ok (.if_icmp .ne 10, 3) := gdX11_isStairHere_0.2.2.2.1
theorem dX11_isStairHere_9 : decode cX11_isStairHere 9 = .ok (.aload_n 0, 1) := gdX11_isStairHere_0.2.2.2.2.1
theorem dX11_isStairHere_10 : decode cX11_isStairHere 10 = .ok (.iconst 4, 1) := gdX11_isStairHere_0.2.2.2.2.2.1
theorem dX11_isStairHere_11 : decode cX11_isStairHere 11 = .ok (.iload_n 1, 1) := gdX11_isStairHere_0.2.2.2.2.2.2.1
theorem dX11_isStairHere_12 : decode cX11_isStairHere 12 = .ok (.invokevirtual 124, 3) := gdX11_isStairHere_0.2.2.2.2.2.2.2.1
theorem dX11_isStairHere_15 : decode cX11_isStairHere 15 = .ok (.ireturn, 1) := gdX11_isStairHere_0.2.2.2.2.2.2.2.2.1
theorem dX11_isStairHere_16 : decode cX11_isStairHere 16 = .ok (.aload_n 0, 1) := gdX11_isStairHere_0.2.2.2.2.2.2.2.2.2.1
theorem dX11_isStairHere_17 : decode cX11_isStairHere 17 = .ok (.invokevirtual 118, 3) := gdX11_isStairHere_0.2.2.2.2.2.2.2.2.2.2.1
theorem dX11_isStairHere_20 : decode cX11_isStairHere 20 = .ok (.iconst 5, 1) := gdX11_isStairHere_0.2.2.2.2.2.2.2.2.2.2.2.1
theorem dX11_isStairHere_21 : decode cX11_isStairHere 21 = .ok (.aload_n 0, 1) := gdX11_isStairHere_0.2.2.2.2.2.2.2.2.2.2.2.2.1
theorem dX11_isStairHere_22 : decode cX11_isStairHere 22 = .ok (.getfield 226, 3) := gdX11_isStairHere_0.2.2.2.2.2.2.2.2.2.2.2.2.2.1
theorem dX11_isStairHere_25 : decode cX11_isStairHere 25 = .ok (.imul, 1) := gdX11_isStairHere_0.2.2.2.2.2.2.2.2.2.2.2.2.2.2.1
theorem dX11_isStairHere_26 : decode cX11_isStairHere 26 = .ok (.istore_n 2, 1) := gdX11_isStairHere_0.2.2.2.2.2.2.2.2.2.2.2.2.2.2.2
theorem gdX11_isStairHere_27 : (decode cX11_isStairHere 27 = .ok (.aload_n 0, 1)) ∧ (decode cX11_isStairHere 28 = .ok (.iconst 0, 1)) ∧ (decode cX11_isStairHere 29 = .ok (.aload_n 0, 1)) ∧ (decode cX11_isStairHere 30 = .ok (.getfield 223, 3)) ∧ (decode cX11_isStairHere 33 = .ok (.iconst 1, 1)) ∧ (decode cX11_isStairHere 34 = .ok (.isub, 1)) ∧ (decode cX11_isStairHere 35 = .ok (.invokevirtual 172, 3)) ∧ (decode cX11_isStairHere 38 = .ok (.ifCond .ne 5, 3)) ∧ (decode cX11_isStairHere 41 = .ok (.iconst 0, 1)) ∧ (decode cX11_isStairHere 42 = .ok (.ireturn, 1)) ∧ (decode cX11_isStairHere 43 = .ok (.aload_n 0, 1)) ∧ (decode cX11_isStairHere 44 = .ok (.getfield 29, 3)) ∧ (decode cX11_isStairHere 47 = .ok (.iload_n 2, 1)) ∧ (decode cX11_isStairHere 48 = .ok (.aload_n 0, 1)) ∧ (decode cX11_isStairHere 49 = .ok (.getfield 128, 3)) ∧ (decode cX11_isStairHere 52 = .ok (.iastore, 1)) := by decide +kernel
theorem dX11_isStairHere_27 : decode cX11_isStairHere 27 = .ok (.aload_n 0, 1) := gdX11_isStairHere_27.1
theorem dX11_isStairHere_28 : decode cX11_isStairHere 28 = .ok (.iconst 0, 1) := gdX11_isStairHere_27.2.1
theorem dX11_isStairHere_29 : decode cX11_isStairHere 29 = .ok (.aload_n 0, 1) := gdX11_isStairHere_27.2.2.1
theorem dX11_isStairHere_30 : decode cX11_isStairHere 30 = .ok (.getfield 223, 3) := gdX11_isStairHere_27.2.2.2.1
theorem dX11_isStairHere_33 : decode cX11_isStairHere 33 = .ok (.iconst 1, 1) := gdX11_isStairHere_27.2.2.2.2.1
theorem dX11_isStairHere_34 : decode cX11_isStairHere 34 = .ok (.isub, 1) := gdX11_isStairHere_27.2.2.2.2.2.1
theorem dX11_isStairHere_35 : decode cX11_isStairHere 35 = .ok (.invokevirtual 172, 3) := gdX11_isStairHere_27.2.2.2.2.2.2.1
theorem dX11_isStairHere_38 : decode cX11_isStairHere 38 = .ok (.ifCond .ne 5, 3) := gdX11_isStairHere_27.2.2.2.2.2.2.2.1
theorem dX11_isStairHere_41 : decode cX11_isStairHere 41 = .ok (.iconst 0, 1) := gdX11_isStairHere_27.2.2.2.2.2.2.2.2.1
theorem dX11_isStairHere_42 : decode cX11_isStairHere 42 = .ok (.ireturn, 1) := gdX11_isStairHere_27.2.2.2.2.2.2.2.2.2.1
theorem dX11_isStairHere_43 : decode cX11_isStairHere 43 = .ok (.aload_n 0, 1) := gdX11_isStairHere_27.2.2.2.2.2.2.2.2.2.2.1
theorem dX11_isStairHere_44 : decode cX11_isStairHere 44 = .ok (.getfield 29, 3) := gdX11_isStairHere_27.2.2.2.2.2.2.2.2.2.2.2.1
theorem dX11_isStairHere_47 : decode cX11_isStairHere 47 = .ok (.iload_n 2, 1) := gdX11_isStairHere_27.2.2.2.2.2.2.2.2.2.2.2.2.1
theorem dX11_isStairHere_48 : decode cX11_isStairHere 48 = .ok (.aload_n 0, 1) := gdX11_isStairHere_27.2.2.2.2.2.2.2.2.2.2.2.2.2.1
theorem dX11_isStairHere_49 : decode cX11_isStairHere 49 = .ok (.getfield 128, 3) := gdX11_isStairHere_27.2.2.2.2.2.2.2.2.2.2.2.2.2.2.1
theorem dX11_isStairHere_52 : decode cX11_isStairHere 52 = .ok (.iastore, 1) := gdX11_isStairHere_27.2.2.2.2.2.2.2.2.2.2.2.2.2.2.2
theorem gdX11_isStairHere_53 : (decode cX11_isStairHere 53 = .ok (.aload_n 0, 1)) ∧ (decode cX11_isStairHere 54 = .ok (.invokevirtual 106, 3)) ∧ (decode cX11_isStairHere 57 = .ok (.pop, 1)) ∧ (decode cX11_isStairHere 58 = .ok (.aload_n 0, 1)) ∧ (decode cX11_isStairHere 59 = .ok (.getfield 103, 3)) ∧ (decode cX11_isStairHere 62 = .ok (.istore_n 3, 1)) ∧ (decode cX11_isStairHere 63 = .ok (.aload_n 0, 1)) ∧ (decode cX11_isStairHere 64 = .ok (.iconst 0, 1)) ∧ (decode cX11_isStairHere 65 = .ok (.aload_n 0, 1)) ∧ (decode cX11_isStairHere 66 = .ok (.getfield 223, 3)) ∧ (decode cX11_isStairHere 69 = .ok (.iconst 1, 1)) ∧ (decode cX11_isStairHere 70 = .ok (.isub, 1)) ∧ (decode cX11_isStairHere 71 = .ok (.invokevirtual 172, 3)) ∧ (decode cX11_isStairHere 74 = .ok (.ifCond .ne 5, 3)) ∧ (decode cX11_isStairHere 77 = .ok (.iconst 0, 1)) ∧ (decode cX11_isStairHere 78 = .ok (.ireturn, 1)) := by decide +kernel
theorem dX11_isStairHere_53 : decode cX11_isStairHere 53 = .ok (.aload_n 0, 1) := gdX11_isStairHere_53.1
theorem dX11_isStairHere_54 : decode cX11_isStairHere 54 = .ok (.invokevirtual 106, 3) := gdX11_isStairHere_53.2.1
theorem dX11_isStairHere_57 : decode cX11_isStairHere 57 = .ok (.pop, 1) := gdX11_isStairHere_53.2.2.1
theorem dX11_isStairHere_58 : decode cX11_isStairHere 58 = .ok (.aload_n 0, 1) := gdX11_isStairHere_53.2.2.2.1
theorem dX11_isStairHere_59 : decode cX11_isStairHere 59 = .ok (.getfield 103, 3) := gdX11_isStairHere_53.2.2.2.2.1
theorem dX11_isStairHere_62 : decode cX11_isStairHere 62 = .ok (.istore_n 3, 1) := gdX11_isStairHere_53.2.2.2.2.2.1
theorem dX11_isStairHere_63 : decode cX11_isStairHere 63 = .ok (.aload_n 0, 1) := gdX11_isStairHere_53.2.2.2.2.2.2.1
theorem dX11_isStairHere_64 : decode cX11_isStairHere 64 = .ok (.iconst 0, 1) := gdX11_isStairHere_53.2.2.2.2.2.2.2.1
theorem dX11_isStairHere_65 : decode cX11_isStairHere 65 = .ok (.aload_n 0, 1) := gdX11_isStairHere_53.2.2.2.2.2.2.2.2.1
theorem dX11_isStairHere_66 : decode cX11_isStairHere 66 = .ok (.getfield 223, 3) := gdX11_isStairHere_53.2.2.2.2.2.2.2.2.2.1
theorem dX11_isStairHere_69 : decode cX11_isStairHere 69 = .ok (.iconst 1, 1) := gdX11_isStairHere_53.2.2.2.2.2.2.2.2.2.2.1
theorem dX11_isStairHere_70 : decode cX11_isStairHere 70 = .ok (.isub, 1) := gdX11_isStairHere_53.2.2.2.2.2.2.2.2.2.2.2.1
theorem dX11_isStairHere_71 : decode cX11_isStairHere 71 = .ok (.invokevirtual 172, 3) := gdX11_isStairHere_53.2.2.2.2.2.2.2.2.2.2.2.2.1
theorem dX11_isStairHere_74 : decode cX11_isStairHere 74 = .ok (.ifCond .ne 5, 3) := gdX11_isStairHere_53.2.2.2.2.2.2.2.2.2.2.2.2.2.1
theorem dX11_isStairHere_77 : decode cX11_isStairHere 77 = .ok (.iconst 0, 1) := gdX11_isStairHere_53.2.2.2.2.2.2.2.2.2.2.2.2.2.2.1
theorem dX11_isStairHere_78 : decode cX11_isStairHere 78 = .ok (.ireturn, 1) := gdX11_isStairHere_53.2.2.2.2.2.2.2.2.2.2.2.2.2.2.2
theorem gdX11_isStairHere_79 : (decode cX11_isStairHere 79 = .ok (.aload_n 0, 1)) ∧ (decode cX11_isStairHere 80 = .ok (.getfield 128, 3)) ∧ (decode cX11_isStairHere 83 = .ok (.aload_n 0, 1)) ∧ (decode cX11_isStairHere 84 = .ok (.getfield 29, 3)) ∧ (decode cX11_isStairHere 87 = .ok (.iload_n 2, 1)) ∧ (decode cX11_isStairHere 88 = .ok (.iaload, 1)) ∧ (decode cX11_isStairHere 89 = .ok (.if_icmp .ne 10, 3)) ∧ (decode cX11_isStairHere 92 = .ok (.aload_n 0, 1)) ∧ (decode cX11_isStairHere 93 = .ok (.iconst 1, 1)) ∧ (decode cX11_isStairHere 94 = .ok (.iload_n 3, 1)) ∧ (decode cX11_isStairHere 95 = .ok (.invokevirtual 124, 3)) ∧ (decode cX11_isStairHere 98 = .ok (.ireturn, 1)) ∧ (decode cX11_isStairHere 99 = .ok (.aload_n 0, 1)) ∧ (decode cX11_isStairHere 100 = .ok (.getfield 29, 3)) ∧ (decode cX11_isStairHere 103 = .ok (.iload_n 2, 1)) ∧ (decode cX11_isStairHere 104 = .ok (.iconst 1, 1)) := by decide +kernel
theorem dX11_isStairHere_79 : decode cX11_isStairHere 79 = .ok (.aload_n 0, 1) := gdX11_isStairHere_79.1
theorem dX11_isStairHere_80 : decode cX11_isStairHere 80 = .ok (.getfield 128, 3) := gdX11_isStairHere_79.2.1
theorem dX11_isStairHere_83 : decode cX11_isStairHere 83 = .ok (.aload_n 0, 1) := gdX11_isStairHere_79.2.2.1
theorem dX11_isStairHere_84 : decode cX11_isStairHere 84 = .ok (.getfield 29, 3) := gdX11_isStairHere_79.2.2.2.1
theorem dX11_isStairHere_87 : decode cX11_isStairHere 87 = .ok (.iload_n 2, 1) := gdX11_isStairHere_79.2.2.2.2.1
theorem dX11_isStairHere_88 : decode cX11_isStairHere 88 = .ok (.iaload, 1) := gdX11_isStairHere_79.2.2.2.2.2.1
theorem dX11_isStairHere_89 : decode cX11_isStairHere 89 = .ok (.if_icmp .ne 10, 3) := gdX11_isStairHere_79.2.2.2.2.2.2.1
theorem dX11_isStairHere_92 : decode cX11_isStairHere 92 = .ok (.aload_n 0, 1) := gdX11_isStairHere_79.2.2.2.2.2.2.2.1
theorem dX11_isStairHere_93 : decode cX11_isStairHere 93 = .ok (.iconst 1, 1) := gdX11_isStairHere_79.2.2.2.2.2.2.2.2.1
theorem dX11_isStairHere_94 : decode cX11_isStairHere 94 = .ok (.iload_n 3, 1) := gdX11_isStairHere_79.2.2.2.2.2.2.2.2.2.1
theorem dX11_isStairHere_95 : decode cX11_isStairHere 95 = .ok (.invokevirtual 124, 3) := gdX11_isStairHere_79.2.2.2.2.2.2.2.2.2.2.1
theorem dX11_isStairHere_98 : decode cX11_isStairHere 98 = .ok (.ireturn, 1) := gdX11_isStairHere_79.2.2.2.2.2.2.2.2.2.2.2.1
theorem dX11_isStairHere_99 : decode cX11_isStairHere 99 = .ok (.aload_n 0, 1) := gdX11_isStairHere_79.2.2.2.2.2.2.2.2.2.2.2.2.1
theorem dX11_isStairHere_100 : decode cX11_isStairHere 100 = .ok (.getfield 29, 3) := gdX11_isStairHere_79.2.2.2.2.2.2.2.2.2.2.2.2.2.1
theorem dX11_isStairHere_103 : decode cX11_isStairHere 103 = .ok (.iload_n 2, 1) := gdX11_isStairHere_79.2.2.2.2.2.2.2.2.2.2.2.2.2.2.1
theorem dX11_isStairHere_104 : decode cX11_isStairHere 104 = .ok (.iconst 1, 1) := gdX11_isStairHere_79.2.2.2.2.2.2.2.2.2.2.2.2.2.2.2
theorem gdX11_isStairHere_105 : (decode cX11_isStairHere 105 = .ok (.iadd, 1)) ∧ (decode cX11_isStairHere 106 = .ok (.aload_n 0, 1)) ∧ (decode cX11_isStairHere 107 = .ok (.getfield 128, 3)) ∧ (decode cX11_isStairHere 110 = .ok (.iastore, 1)) ∧ (decode cX11_isStairHere 111 = .ok (.iconst 2, 1)) ∧ (decode cX11_isStairHere 112 = .ok (.istore 4, 2)) ∧ (decode cX11_isStairHere 114 = .ok (.iload 4, 2)) ∧ (decode cX11_isStairHere 116 = .ok (.iconst 5, 1)) ∧ (decode cX11_isStairHere 117 = .ok (.if_icmp .ge 45, 3)) ∧ (decode cX11_isStairHere 120 = .ok (.aload_n 0, 1)) ∧ (decode cX11_isStairHere 121 = .ok (.iconst 1, 1)) ∧ (decode cX11_isStairHere 122 = .ok (.iload 4, 2)) ∧ (decode cX11_isStairHere 124 = .ok (.iconst 2, 1)) ∧ (decode cX11_isStairHere 125 = .ok (.if_icmp .ne 8, 3)) ∧ (decode cX11_isStairHere 128 = .ok (.bipush 9, 2)) ∧ (decode cX11_isStairHere 130 = .ok (.goto 5, 3)) := by decide +kernel
theorem dX11_isStairHere_105 : decode cX11_isStairHere 105 = .ok (.iadd, 1) := gdX11_isStairHere_105.1
theorem dX11_isStairHere_106 : decode cX11_isStairHere 106 = .ok (.aload_n 0, 1) := gdX11_isStairHere_105.2.1
theorem dX11_isStairHere_107 : decode cX11_isStairHere 107 = .ok (.getfield 128, 3) := gdX11_isStairHere_105.2.2.1
theorem dX11_isStairHere_110 : decode cX11_isStairHere 110 = .ok (.iastore, 1) := gdX11_isStairHere_105.2.2.2.1
theorem dX11_isStairHere_111 : decode cX11_isStairHere 111 = .ok (.iconst 2, 1) := gdX11_isStairHere_105.2.2.2.2.1
theorem dX11_isStairHere_112 : decode cX11_isStairHere 112 = .ok (.istore 4, 2) := gdX11_isStairHere_105.2.2.2.2.2.1
theorem dX11_isStairHere_114 : decode cX11_isStairHere 114 = .ok (.iload 4, 2) := gdX11_isStairHere_105.2.2.2.2.2.2.1
theorem dX11_isStairHere_116 : decode cX11_isStairHere 116 = .ok (.iconst 5, 1) := gdX11_isStairHere_105.2.2.2.2.2.2.2.1
theorem dX11_isStairHere_117 : decode cX11_isStairHere 117 = .ok (.if_icmp .ge 45, 3) := gdX11_isStairHere_105.2.2.2.2.2.2.2.2.1
theorem dX11_isStairHere_120 : decode cX11_isStairHere 120 = .ok (.aload_n 0, 1) := gdX11_isStairHere_105.2.2.2.2.2.2.2.2.2.1
theorem dX11_isStairHere_121 : decode cX11_isStairHere 121 = .ok (.iconst 1, 1) := gdX11_isStairHere_105.2.2.2.2.2.2.2.2.2.2.1
theorem dX11_isStairHere_122 : decode cX11_isStairHere 122 = .ok (.iload 4, 2) := gdX11_isStairHere_105.2.2.2.2.2.2.2.2.2.2.2.1
theorem dX11_isStairHere_124 : decode cX11_isStairHere 124 = .ok (.iconst 2, 1) := gdX11_isStairHere_105.2.2.2.2.2.2.2.2.2.2.2.2.1
theorem dX11_isStairHere_125 : decode cX11_isStairHere 125 = .ok (.if_icmp .ne 8, 3) := gdX11_isStairHere_105.2.2.2.2.2.2.2.2.2.2.2.2.2.1
theorem dX11_isStairHere_128 : decode cX11_isStairHere 128 = .ok (.bipush 9, 2) := gdX11_isStairHere_105.2.2.2.2.2.2.2.2.2.2.2.2.2.2.1
theorem dX11_isStairHere_130 : decode cX11_isStairHere 130 = .ok (.goto 5, 3) := gdX11_isStairHere_105.2.2.2.2.2.2.2.2.2.2.2.2.2.2.2
theorem gdX11_isStairHere_133 : (decode cX11_isStairHere 133 = .ok (.bipush 20, 2)) ∧ (decode cX11_isStairHere 135 = .ok (.invokevirtual 172, 3)) ∧ (decode cX11_isStairHere 138 = .ok (.ifCond .ne 5, 3)) ∧ (decode cX11_isStairHere 141 = .ok (.iconst 0, 1)) ∧ (decode cX11_isStairHere 142 = .ok (.ireturn, 1)) ∧ (decode cX11_isStairHere 143 = .ok (.aload_n 0, 1)) ∧ (decode cX11_isStairHere 144 = .ok (.getfield 29, 3)) ∧ (decode cX11_isStairHere 147 = .ok (.iload_n 2, 1)) ∧ (decode cX11_isStairHere 148 = .ok (.iload 4, 2)) ∧ (decode cX11_isStairHere 150 = .ok (.iadd, 1)) ∧ (decode cX11_isStairHere 151 = .ok (.aload_n 0, 1)) ∧ (decode cX11_isStairHere 152 = .ok (.getfield 128, 3)) ∧ (decode cX11_isStairHere 155 = .ok (.iastore, 1)) ∧ (decode cX11_isStairHere 156 = .ok (.iinc 4 1, 3)) ∧ (decode cX11_isStairHere 159 = .ok (.goto (-45), 3)) ∧ (decode cX11_isStairHere 162 = .ok (.aload_n 0, 1)) := by decide +kernel
theorem dX11_isStairHere_133 : decode cX11_isStairHere 133 = .ok (.bipush 20, 2) := gdX11_isStairHere_133.1
theorem dX11_isStairHere_135 : decode cX11_isStairHere 135 = .ok (.invokevirtual 172, 3) := gdX11_isStairHere_133.2.1
theorem dX11_isStairHere_138 : decode cX11_isStairHere 138 = .ok (.ifCond .ne 5, 3) := gdX11_isStairHere_133.2.2.1
theorem dX11_isStairHere_141 : decode cX11_isStairHere 141 = .ok (.iconst 0, 1) := gdX11_isStairHere_133.2.2.2.1
theorem dX11_isStairHere_142 : decode cX11_isStairHere 142 = .ok (.ireturn, 1) := gdX11_isStairHere_133.2.2.2.2.1
theorem dX11_isStairHere_143 : decode cX11_isStairHere 143 = .ok (.aload_n 0, 1) := gdX11_isStairHere_133.2.2.2.2.2.1
theorem dX11_isStairHere_144 : decode cX11_isStairHere 144 = .ok (.getfield 29, 3) := gdX11_isStairHere_133.2.2.2.2.2.2.1
theorem dX11_isStairHere_147 : decode cX11_isStairHere 147 = .ok (.iload_n 2, 1) := gdX11_isStairHere_133.2.2.2.2.2.2.2.1
theorem dX11_isStairHere_148 : decode cX11_isStairHere 148 = .ok (.iload 4, 2) := gdX11_isStairHere_133.2.2.2.2.2.2.2.2.1
theorem dX11_isStairHere_150 : decode cX11_isStairHere 150 = .ok (.iadd, 1) := gdX11_isStairHere_133.2.2.2.2.2.2.2.2.2.1
theorem dX11_isStairHere_151 : decode cX11_isStairHere 151 = .ok (.aload_n 0, 1) := gdX11_isStairHere_133.2.2.2.2.2.2.2.2.2.2.1
theorem dX11_isStairHere_152 : decode cX11_isStairHere 152 = .ok (.getfield 128, 3) := gdX11_isStairHere_133.2.2.2.2.2.2.2.2.2.2.2.1
theorem dX11_isStairHere_155 : decode cX11_isStairHere 155 = .ok (.iastore, 1) := gdX11_isStairHere_133.2.2.2.2.2.2.2.2.2.2.2.2.1
theorem dX11_isStairHere_156 : decode cX11_isStairHere 156 = .ok (.iinc 4 1, 3) := gdX11_isStairHere_133.2.2.2.2.2.2.2.2.2.2.2.2.2.1
theorem dX11_isStairHere_159 : decode cX11_isStairHere 159 = .ok (.goto (-45), 3) := gdX11_isStairHere_133.2.2.2.2.2.2.2.2.2.2.2.2.2.2.1
theorem dX11_isStairHere_162 : decode cX11_isStairHere 162 = .ok (.aload_n 0, 1) := gdX11_isStairHere_133.2.2.2.2.2.2.2.2.2.2.2.2.2.2.2
theorem gdX11_isStairHere_163 : (decode cX11_isStairHere 163 = .ok (.dup, 1)) ∧ (decode cX11_isStairHere 164 = .ok (.getfield 226, 3)) ∧ (decode cX11_isStairHere 167 = .ok (.iconst 1, 1)) ∧ (decode cX11_isStairHere 168 = .ok (.iadd, 1)) ∧ (decode cX11_isStairHere 169 = .ok (.putfield 226, 3)) ∧ (decode cX11_isStairHere 172 = .ok (.iconst 1, 1)) ∧ (decode cX11_isStairHere 173 = .ok (.ireturn, 1)) := by decide +kernel
theorem dX11_isStairHere_163 : decode cX11_isStairHere 163 = .ok (.dup, 1) := gdX11_isStairHere_163.1
theorem dX11_isStairHere_164 : decode cX11_isStairHere 164 = .ok (.getfield 226, 3) := gdX11_isStairHere_163.2.1
theorem dX11_isStairHere_167 : decode cX11_isStairHere 167 = .ok (.iconst 1, 1) := gdX11_isStairHere_163.2.2.1
theorem dX11_isStairHere_168 : decode cX11_isStairHere 168 = .ok (.iadd, 1) := gdX11_isStairHere_163.2.2.2.1
theorem dX11_isStairHere_169 : decode cX11_isStairHere 169 = .ok (.putfield 226, 3) := gdX11_isStairHere_163.2.2.2.2.1
theorem dX11_isStairHere_172 : decode cX11_isStairHere 172 = .ok (.iconst 1, 1) := gdX11_isStairHere_163.2.2.2.2.2.1
theorem dX11_isStairHere_173 : decode cX11_isStairHere 173 = .ok (.ireturn, 1) := gdX11_isStairHere_163.2.2.2.2.2.2
theorem gdX11_isThingHere_0 : (decode cX11_isThingHere 0 = .ok (.aload_n 0, 1)) ∧ (decode cX11_isThingHere 1 = .ok (.getfield 229, 3)) ∧ (decode cX11_isThingHere 4 = .ok (.bipush 8, 2)) ∧ (decode cX11_isThingHere 6 = .ok (.if_icmp .ne 10, 3)) ∧ (decode cX11_isThingHere 9 = .ok (.aload_n 0, 1)) ∧ (decode cX11_isThingHere 10 = .ok (.iconst 4, 1)) ∧ (decode cX11_isThingHere 11 = .ok (.iload_n 1, 1)) ∧ (decode cX11_isThingHere 12 = .ok (.invokevirtual 124, 3)) ∧ (decode cX11_isThingHere 15 = .ok (.ireturn, 1)) ∧ (decode cX11_isThingHere 16 = .ok (.aload_n 0, 1)) ∧ (decode cX11_isThingHere 17 = .ok (.invokevirtual 118, 3)) ∧ (decode cX11_isThingHere 20 = .ok (.aload_n 0, 1)) ∧ (decode cX11_isThingHere 21 = .ok (.iconst 0, 1)) ∧ (decode cX11_isThingHere 22 = .ok (.aload_n 0, 1)) ∧ (decode cX11_isThingHere 23 = .ok (.getfield 223, 3)) ∧ (decode cX11_isThingHere 26 = .ok (.iconst 1, 1)) := by decide +kernel
theorem dX11_isThingHere_0 : decode cX11_isThingHere 0 = .ok (.aload_n 0, 1) := gdX11_isThingHere_0.1
theorem dX11_isThingHere_1 : decode cX11_isThingHere 1 = .ok (.getfield 229, 3) := gdX11_isThingHere_0.2.1
theorem dX11_isThingHere_4 : decode cX11_isThingHere 4 = .ok (.bipush 8, 2) := gdX11_isThingHere_0.2.2.1
theorem dX11_isThingHere_6 : decode cX11_isThingHere 6 = .ok (.if_icmp .ne 10, 3) := gdX11_isThingHere_0.2.2.2.1
theorem dX11_isThingHere_9 : decode cX11_isThingHere 9 = .ok (.aload_n 0, 1) := gdX11_isThingHere_0.2.2.2.2.1
theorem dX11_isThingHere_10 : decode cX11_isThingHere 10 = .ok (.iconst 4, 1) := gdX11_isThingHere_0.2.2.2.2.2.1
theorem dX11_isThingHere_11 : decode cX11_isThingHere 11 = .ok (.iload_n 1, 1) := gdX11_isThingHere_0.2.2.2.2.2.2.1
theorem dX11_isThingHere_12 : decode cX11_isThingHere 12 = .ok (.invokevirtual 124, 3) := gdX11_isThingHere_0.2.2.2.2.2.2.2.1
theorem dX11_isThingHere_15 : decode cX11_isThingHere 15 = .ok (.ireturn, 1) := gdX11_isThingHere_0.2.2.2.2.2.2.2.2.1
theorem dX11_isThingHere_16 : decode cX11_isThingHere 16 = .ok (.aload_n 0, 1) := gdX11_isThingHere_0.2.2.2.2.2.2.2.2.2.1
theorem dX11_isThingHere_17 : decode cX11_isThingHere 17 = .ok (.invokevirtual 118, 3) := gdX11_isThingHere_0.2.2.2.2.2.2.2.2.2.2.1
theorem dX11_isThingHere_20 : decode cX11_isThingHere 20 = .ok (.aload_n 0, 1) := gdX11_isThingHere_0.2.2.2.2.2.2.2.2.2.2.2.1
theorem dX11_isThingHere_21 : decode cX11_isThingHere 21 = .ok (.iconst 0, 1) := gdX11_isThingHere_0.2.2.2.2.2.2.2.2.2.2.2.2.1
theorem dX11_isThingHere_22 : decode cX11_isThingHere 22 = .ok (.aload_n 0, 1) := gdX11_isThingHere_0.2.2.2.2.2.2.2.2.2.2.2.2.2.1
theorem dX11_isThingHere_23 : decode cX11_isThingHere 23 = .ok (.getfield 223, 3) := gdX11_isThingHere_0.2.2.2.2.2.2.2.2.2.2.2.2.2.2.1
theorem dX11_isThingHere_26 : decode cX11_isThingHere 26 = .ok (.iconst 1, 1) := gdX11_isThingHere_0.2.2.2.2.2.2.2.2.2.2.2.2.2.2.2
theorem gdX11_isThingHere_27 : (decode cX11_isThingHere 27 = .ok (.isub, 1)) ∧ (decode cX11_isThingHere 28 = .ok (.invokevirtual 172, 3)) ∧ (decode cX11_isThingHere 31 = .ok (.ifCond .ne 5, 3)) ∧ (decode cX11_isThingHere 34 = .ok (.iconst 0, 1)) ∧ (decode cX11_isThingHere 35 = .ok (.ireturn, 1)) ∧ (decode cX11_isThingHere 36 = .ok (.aload_n 0, 1)) ∧ (decode cX11_isThingHere 37 = .ok (.getfield 32, 3)) ∧ (decode cX11_isThingHere 40 = .ok (.aload_n 0, 1)) ∧ (decode cX11_isThingHere 41 = .ok (.getfield 229, 3)) ∧ (decode cX11_isThingHere 44 = .ok (.aload_n 0, 1)) ∧ (decode cX11_isThingHere 45 = .ok (.getfield 128, 3)) ∧ (decode cX11_isThingHere 48 = .ok (.iastore, 1)) ∧ (decode cX11_isThingHere 49 = .ok (.aload_n 0, 1)) ∧ (decode cX11_isThingHere 50 = .ok (.dup, 1)) ∧ (decode cX11_isThingHere 51 = .ok (.getfield 229, 3)) ∧ (decode cX11_isThingHere 54 = .ok (.iconst 1, 1)) := by decide +kernel
theorem dX11_isThingHere_27 : decode cX11_isThingHere 27 = .ok (.isub, 1) := gdX11_isThingHere_27.1
theorem dX11_isThingHere_28 : decode cX11_isThingHere 28 = .ok (.invokevirtual 172, 3) := gdX11_isThingHere_27.2.1
theorem dX11_isThingHere_31 : decode cX11_isThingHere 31 = .ok (.ifCond .ne 5, 3) := gdX11_isThingHere_27.2.2.1
theorem dX11_isThingHere_34 : decode cX11_isThingHere 34 = .ok (.iconst 0, 1) := gdX11_isThingHere_27.2.2.2.1
theorem dX11_isThingHere_35 : decode cX11_isThingHere 35 = .ok (.ireturn, 1) := gdX11_isThingHere_27.2.2.2.2.1
theorem dX11_isThingHere_36 : decode cX11_isThingHere 36 = .ok (.aload_n 0, 1) := gdX11_isThingHere_27.2.2.2.2.2.1
theorem dX11_isThingHere_37 : decode cX11_isThingHere 37 = .ok (.getfield 32, 3) := gdX11_isThingHere_27.2.2.2.2.2.2.1
theorem dX11_isThingHere_40 : decode cX11_isThingHere 40 = .ok (.aload_n 0, 1) := gdX11_isThingHere_27.2.2.2.2.2.2.2.1
theorem dX11_isThingHere_41 : decode cX11_isThingHere 41 = .ok (.getfield 229, 3) := gdX11_isThingHere_27.2.2.2.2.2.2.2.2.1
theorem dX11_isThingHere_44 : decode cX11_isThingHere 44 = .ok (.aload_n 0, 1) := gdX11_isThingHere_27.2.2.2.2.2.2.2.2.2.1
theorem dX11_isThingHere_45 : decode cX11_isThingHere 45 = .ok (.getfield 128, 3) := gdX11_isThingHere_27.2.2.2.2.2.2.2.2.2.2.1
theorem dX11_isThingHere_48 : decode cX11_isThingHere 48 = .ok (.iastore, 1) := gdX11_isThingHere_27.2.2.2.2.2.2.2.2.2.2.2.1
theorem dX11_isThingHere_49 : decode cX11_isThingHere 49 = .ok (.aload_n 0, 1) := gdX11_isThingHere_27.2.2.2.2.2.2.2.2.2.2.2.2.1
theorem dX11_isThingHere_50 : decode cX11_isThingHere 50 = .ok (.dup, 1) := gdX11_isThingHere_27.2.2.2.2.2.2.2.2.2.2.2.2.2.1
theorem dX11_isThingHere_51 : decode cX11_isThingHere 51 = .ok (.getfield 229, 3) := gdX11_isThingHere_27.2.2.2.2.2.2.2.2.2.2.2.2.2.2.1
theorem dX11_isThingHere_54 : decode cX11_isThingHere 54 = .ok (.iconst 1, 1) := gdX11_isThingHere_27.2.2.2.2.2.2.2.2.2.2.2.2.2.2.2
theorem gdX11_isThingHere_55 : (decode cX11_isThingHere 55 = .ok (.iadd, 1)) ∧ (decode cX11_isThingHere 56 = .ok (.putfield 229, 3)) ∧ (decode cX11_isThingHere 59 = .ok (.iconst 1, 1)) ∧ (decode cX11_isThingHere 60 = .ok (.ireturn, 1)) := by decide +kernel
theorem dX11_isThingHere_55 : decode cX11_isThingHere 55 = .ok (.iadd, 1) := gdX11_isThingHere_55.1
theorem dX11_isThingHere_56 : decode cX11_isThingHere 56 = .ok (.putfield 229, 3) := gdX11_isThingHere_55.2.1
theorem dX11_isThingHere_59 : decode cX11_isThingHere 59 = .ok (.iconst 1, 1) := gdX11_isThingHere_55.2.2.1
theorem dX11_isThingHere_60 : decode cX11_isThingHere 60 = .ok (.ireturn, 1) := gdX11_isThingHere_55.2.2.2
theorem gdX11_clauseHere_0 : (decode cX11_clauseHere 0 = .ok (.aload_n 0, 1)) ∧ (decode cX11_clauseHere 1 = .ok (.invokevirtual 106, 3)) ∧ (decode cX11_clauseHere 4 = .ok (.pop, 1)) ∧ (decode cX11_clauseHere 5 = .ok (.aload_n 0, 1)) ∧ (decode cX11_clauseHere 6 = .ok (.getfield 103, 3)) ∧ (decode cX11_clauseHere 9 = .ok (.istore_n 1, 1)) ∧ (decode cX11_clauseHere 10 = .ok (.aload_n 0, 1)) ∧ (decode cX11_clauseHere 11 = .ok (.getfield 151, 3)) ∧ (decode cX11_clauseHere 14 = .ok (.bipush 6, 2)) ∧ (decode cX11_clauseHere 16 = .ok (.if_icmp .ne 7, 3)) ∧ (decode cX11_clauseHere 19 = .ok (.iconst 1, 1)) ∧ (decode cX11_clauseHere 20 = .ok (.goto 4, 3)) ∧ (decode cX11_clauseHere 23 = .ok (.iconst 0, 1)) ∧ (decode cX11_clauseHere 24 = .ok (.istore_n 2, 1)) ∧ (decode cX11_clauseHere 25 = .ok (.iload_n 2, 1)) ∧ (decode cX11_clauseHere 26 = .ok (.ifCond .eq 41, 3)) := by decide +kernel
theorem dX11_clauseHere_0 : decode cX11_clauseHere 0 = .ok (.aload_n 0, 1) := gdX11_clauseHere_0.1
theorem dX11_clauseHere_1 : decode cX11_clauseHere 1 = .ok (.invokevirtual 106, 3) := gdX11_clauseHere_0.2.1
theorem dX11_clauseHere_4 : decode cX11_clauseHere 4 = .ok (.pop, 1) := gdX11_clauseHere_0.2.2.1
theorem dX11_clauseHere_5 : decode cX11_clauseHere 5 = .ok (.aload_n 0, 1) := gdX11_clauseHere_0.2.2.2.1
theorem dX11_clauseHere_6 : decode cX11_clauseHere 6 = .ok (.getfield 103, 3) := gdX11_clauseHere_0.2.2.2.2.1
theorem dX11_clauseHere_9 : decode cX11_clauseHere 9 = .ok (.istore_n 1, 1) := gdX11_clauseHere_0.2.2.2.2.2.1
theorem dX11_clauseHere_10 : decode cX11_clauseHere 10 = .ok (.aload_n 0, 1) := gdX11_clauseHere_0.2.2.2.2.2.2.1
theorem dX11_clauseHere_11 : decode cX11_clauseHere 11 = .ok (.getfield 151, 3) := gdX11_clauseHere_0.2.2.2.2.2.2.2.1
theorem dX11_clauseHere_14 : decode cX11_clauseHere 14 = .ok (.bipush 6, 2) := gdX11_clauseHere_0.2.2.2.2.2.2.2.2.1
theorem dX11_clauseHere_16 : decode cX11_clauseHere 16 = .ok (.if_icmp .ne 7, 3) := gdX11_clauseHere_0.2.2.2.2.2.2.2.2.2.1
theorem dX11_clauseHere_19 : decode cX11_clauseHere 19 = .ok (.iconst 1, 1) := gdX11_clauseHere_0.2.2.2.2.2.2.2.2.2.2.1
theorem dX11_clauseHere_20 : decode cX11_clauseHere 20 = .ok (.goto 4, 3) := gdX11_clauseHere_0.2.2.2.2.2.2.2.2.2.2.2.1
theorem dX11_clauseHere_23 : decode cX11_clauseHere 23 = .ok (.iconst 0, 1) := gdX11_clauseHere_0.2.2.2.2.2.2.2.2.2.2.2.2.1
theorem dX11_clauseHere_24 : decode cX11_clauseHere 24 = .ok (.istore_n 2, 1) := gdX11_clauseHere_0.2.2.2.2.2.2.2.2.2.2.2.2.2.1
theorem dX11_clauseHere_25 : decode cX11_clauseHere 25 = .ok (.iload_n 2, 1) := gdX11_clauseHere_0.2.2.2.2.2.2.2.2.2.2.2.2.2.2.1
theorem dX11_clauseHere_26 : decode cX11_clauseHere 26 = .ok (.ifCond .eq 41, 3) := gdX11_clauseHere_0.2.2.2.2.2.2.2.2.2.2.2.2.2.2.2
theorem gdX11_clauseHere_29 : (decode cX11_clauseHere 29 = .ok (.aload_n 0, 1)) ∧ (decode cX11_clauseHere 30 = .ok (.ldc2_w 139, 3)) ∧ (decode cX11_clauseHere 33 = .ok (.invokevirtual 114, 3)) ∧ (decode cX11_clauseHere 36 = .ok (.ifCond .ne 23, 3)) ∧ (decode cX11_clauseHere 39 = .ok (.aload_n 0, 1)) ∧ (decode cX11_clauseHere 40 = .ok (.ldc2_w 232, 3)) ∧ (decode cX11_clauseHere 43 = .ok (.invokevirtual 114, 3)) ∧ (decode cX11_clauseHere 46 = .ok (.ifCond .ne 13, 3)) ∧ (decode cX11_clauseHere 49 = .ok (.aload_n 0, 1)) ∧ (decode cX11_clauseHere 50 = .ok (.ldc2_w 137, 3)) ∧ (decode cX11_clauseHere 53 = .ok (.invokevirtual 114, 3)) ∧ (decode cX11_clauseHere 56 = .ok (.ifCond .eq 7, 3)) ∧ (decode cX11_clauseHere 59 = .ok (.iconst 1, 1)) ∧ (decode cX11_clauseHere 60 = .ok (.goto 14, 3)) ∧ (decode cX11_clauseHere 63 = .ok (.iconst 0, 1)) ∧ (decode cX11_clauseHere 64 = .ok (.goto 10, 3)) := by decide +kernel
theorem dX11_clauseHere_29 : decode cX11_clauseHere 29 = .ok (.aload_n 0, 1) := gdX11_clauseHere_29.1
theorem dX11_clauseHere_30 : decode cX11_clauseHere 30 = .ok (.ldc2_w 139, 3) := gdX11_clauseHere_29.2.1
theorem dX11_clauseHere_33 : decode cX11_clauseHere 33 = .ok (.invokevirtual 114, 3) := gdX11_clauseHere_29.2.2.1
theorem dX11_clauseHere_36 : decode cX11_clauseHere 36 = .ok (.ifCond .ne 23, 3) := gdX11_clauseHere_29.2.2.2.1
theorem dX11_clauseHere_39 : decode cX11_clauseHere 39 = .ok (.aload_n 0, 1) := gdX11_clauseHere_29.2.2.2.2.1
theorem dX11_clauseHere_40 : decode cX11_clauseHere 40 = .ok (.ldc2_w 232, 3) := gdX11_clauseHere_29.2.2.2.2.2.1
theorem dX11_clauseHere_43 : decode cX11_clauseHere 43 = .ok (.invokevirtual 114, 3) := gdX11_clauseHere_29.2.2.2.2.2.2.1
theorem dX11_clauseHere_46 : decode cX11_clauseHere 46 = .ok (.ifCond .ne 13, 3) := gdX11_clauseHere_29.2.2.2.2.2.2.2.1
theorem dX11_clauseHere_49 : decode cX11_clauseHere 49 = .ok (.aload_n 0, 1) := gdX11_clauseHere_29.2.2.2.2.2.2.2.2.1
theorem dX11_clauseHere_50 : decode cX11_clauseHere 50 = .ok (.ldc2_w 137, 3) := gdX11_clauseHere_29.2.2.2.2.2.2.2.2.2.1
theorem dX11_clauseHere_53 : decode cX11_clauseHere 53 = .ok (.invokevirtual 114, 3) := gdX11_clauseHere_29.2.2.2.2.2.2.2.2.2.2.1
theorem dX11_clauseHere_56 : decode cX11_clauseHere 56 = .ok (.ifCond .eq 7, 3) := gdX11_clauseHere_29.2.2.2.2.2.2.2.2.2.2.2.1
theorem dX11_clauseHere_59 : decode cX11_clauseHere 59 = .ok (.iconst 1, 1) := gdX11_clauseHere_29.2.2.2.2.2.2.2.2.2.2.2.2.1
theorem dX11_clauseHere_60 : decode cX11_clauseHere 60 = .ok (.goto 14, 3) := gdX11_clauseHere_29.2.2.2.2.2.2.2.2.2.2.2.2.2.1
theorem dX11_clauseHere_63 : decode cX11_clauseHere 63 = .ok (.iconst 0, 1) := gdX11_clauseHere_29.2.2.2.2.2.2.2.2.2.2.2.2.2.2.1
theorem dX11_clauseHere_64 : decode cX11_clauseHere 64 = .ok (.goto 10, 3) := gdX11_clauseHere_29.2.2.2.2.2.2.2.2.2.2.2.2.2.2.2
theorem gdX11_clauseHere_67 : (decode cX11_clauseHere 67 = .ok (.aload_n 0, 1)) ∧ (decode cX11_clauseHere 68 = .ok (.ldc2_w 234, 3)) ∧ (decode cX11_clauseHere 71 = .ok (.invokevirtual 114, 3)) ∧ (decode cX11_clauseHere 74 = .ok (.istore_n 3, 1)) ∧ (decode cX11_clauseHere 75 = .ok (.iload_n 3, 1)) ∧ (decode cX11_clauseHere 76 = .ok (.ifCond .ne 10, 3)) ∧ (decode cX11_clauseHere 79 = .ok (.aload_n 0, 1)) ∧ (decode cX11_clauseHere 80 = .ok (.iconst 0, 1)) ∧ (decode cX11_clauseHere 81 = .ok (.iload_n 1, 1)) ∧ (decode cX11_clauseHere 82 = .ok (.invokevirtual 124, 3)) ∧ (decode cX11_clauseHere 85 = .ok (.ireturn, 1)) ∧ (decode cX11_clauseHere 86 = .ok (.aload_n 0, 1)) ∧ (decode cX11_clauseHere 87 = .ok (.getfield 236, 3)) ∧ (decode cX11_clauseHere 90 = .ok (.iload_n 2, 1)) ∧ (decode cX11_clauseHere 91 = .ok (.ifCond .eq 8, 3)) ∧ (decode cX11_clauseHere 94 = .ok (.bipush 24, 2)) := by decide +kernel
theorem dX11_clauseHere_67 : decode cX11_clauseHere 67 = .ok (.aload_n 0, 1) := gdX11_clauseHere_67.1
theorem dX11_clauseHere_68 : decode cX11_clauseHere 68 = .ok (.ldc2_w 234, 3) := gdX11_clauseHere_67.2.1
theorem dX11_clauseHere_71 : decode cX11_clauseHere 71 = .ok (.invokevirtual 114, 3) := gdX11_clauseHere_67.2.2.1
theorem dX11_clauseHere_74 : decode cX11_clauseHere 74 = .ok (.istore_n 3, 1) := gdX11_clauseHere_67.2.2.2.1
theorem dX11_clauseHere_75 : decode cX11_clauseHere 75 = .ok (.iload_n 3, 1) := gdX11_clauseHere_67.2.2.2.2.1
theorem dX11_clauseHere_76 : decode cX11_clauseHere 76 = .ok (.ifCond .ne 10, 3) := gdX11_clauseHere_67.2.2.2.2.2.1
theorem dX11_clauseHere_79 : decode cX11_clauseHere 79 = .ok (.aload_n 0, 1) := gdX11_clauseHere_67.2.2.2.2.2.2.1
theorem dX11_clauseHere_80 : decode cX11_clauseHere 80 = .ok (.iconst 0, 1) := gdX11_clauseHere_67.2.2.2.2.2.2.2.1
theorem dX11_clauseHere_81 : decode cX11_clauseHere 81 = .ok (.iload_n 1, 1) := gdX11_clauseHere_67.2.2.2.2.2.2.2.2.1
theorem dX11_clauseHere_82 : decode cX11_clauseHere 82 = .ok (.invokevirtual 124, 3) := gdX11_clauseHere_67.2.2.2.2.2.2.2.2.2.1
theorem dX11_clauseHere_85 : decode cX11_clauseHere 85 = .ok (.ireturn, 1) := gdX11_clauseHere_67.2.2.2.2.2.2.2.2.2.2.1
theorem dX11_clauseHere_86 : decode cX11_clauseHere 86 = .ok (.aload_n 0, 1) := gdX11_clauseHere_67.2.2.2.2.2.2.2.2.2.2.2.1
theorem dX11_clauseHere_87 : decode cX11_clauseHere 87 = .ok (.getfield 236, 3) := gdX11_clauseHere_67.2.2.2.2.2.2.2.2.2.2.2.2.1
theorem dX11_clauseHere_90 : decode cX11_clauseHere 90 = .ok (.iload_n 2, 1) := gdX11_clauseHere_67.2.2.2.2.2.2.2.2.2.2.2.2.2.1
theorem dX11_clauseHere_91 : decode cX11_clauseHere 91 = .ok (.ifCond .eq 8, 3) := gdX11_clauseHere_67.2.2.2.2.2.2.2.2.2.2.2.2.2.2.1
theorem dX11_clauseHere_94 : decode cX11_clauseHere 94 = .ok (.bipush 24, 2) := gdX11_clauseHere_67.2.2.2.2.2.2.2.2.2.2.2.2.2.2.2
theorem gdX11_clauseHere_96 : (decode cX11_clauseHere 96 = .ok (.goto 5, 3)) ∧ (decode cX11_clauseHere 99 = .ok (.bipush 12, 2)) ∧ (decode cX11_clauseHere 101 = .ok (.if_icmp .ne 10, 3)) ∧ (decode cX11_clauseHere 104 = .ok (.aload_n 0, 1)) ∧ (decode cX11_clauseHere 105 = .ok (.iconst 4, 1)) ∧ (decode cX11_clauseHere 106 = .ok (.iload_n 1, 1)) ∧ (decode cX11_clauseHere 107 = .ok (.invokevirtual 124, 3)) ∧ (decode cX11_clauseHere 110 = .ok (.ireturn, 1)) ∧ (decode cX11_clauseHere 111 = .ok (.aload_n 0, 1)) ∧ (decode cX11_clauseHere 112 = .ok (.dup, 1)) ∧ (decode cX11_clauseHere 113 = .ok (.getfield 236, 3)) ∧ (decode cX11_clauseHere 116 = .ok (.iconst 1, 1)) ∧ (decode cX11_clauseHere 117 = .ok (.iadd, 1)) ∧ (decode cX11_clauseHere 118 = .ok (.putfield 236, 3)) ∧ (decode cX11_clauseHere 121 = .ok (.iload_n 2, 1)) ∧ (decode cX11_clauseHere 122 = .ok (.ifCond .ne 8, 3)) := by decide +kernel
theorem dX11_clauseHere_96 : decode cX11_clauseHere 96 = .ok (.goto 5, 3) := gdX11_clauseHere_96.1
theorem dX11_clauseHere_99 : decode cX11_clauseHere 99 = .ok (.bipush 12, 2) := gdX11_clauseHere_96.2.1
theorem dX11_clauseHere_101 : decode cX11_clauseHere 101 = .ok (.if_icmp .ne 10, 3) := gdX11_clauseHere_96.2.2.1
theorem dX11_clauseHere_104 : decode cX11_clauseHere 104 = .ok (.aload_n 0, 1) := gdX11_clauseHere_96.2.2.2.1
theorem dX11_clauseHere_105 : decode cX11_clauseHere 105 = .ok (.iconst 4, 1) := gdX11_clauseHere_96.2.2.2.2.1
theorem dX11_clauseHere_106 : decode cX11_clauseHere 106 = .ok (.iload_n 1, 1) := gdX11_clauseHere_96.2.2.2.2.2.1
theorem dX11_clauseHere_107 : decode cX11_clauseHere 107 = .ok (.invokevirtual 124, 3) := gdX11_clauseHere_96.2.2.2.2.2.2.1
theorem dX11_clauseHere_110 : decode cX11_clauseHere 110 = .ok (.ireturn, 1) := gdX11_clauseHere_96.2.2.2.2.2.2.2.1
theorem dX11_clauseHere_111 : decode cX11_clauseHere 111 = .ok (.aload_n 0, 1) := gdX11_clauseHere_96.2.2.2.2.2.2.2.2.1
theorem dX11_clauseHere_112 : decode cX11_clauseHere 112 = .ok (.dup, 1) := gdX11_clauseHere_96.2.2.2.2.2.2.2.2.2.1
theorem dX11_clauseHere_113 : decode cX11_clauseHere 113 = .ok (.getfield 236, 3) := gdX11_clauseHere_96.2.2.2.2.2.2.2.2.2.2.1
theorem dX11_clauseHere_116 : decode cX11_clauseHere 116 = .ok (.iconst 1, 1) := gdX11_clauseHere_96.2.2.2.2.2.2.2.2.2.2.2.1
theorem dX11_clauseHere_117 : decode cX11_clauseHere 117 = .ok (.iadd, 1) := gdX11_clauseHere_96.2.2.2.2.2.2.2.2.2.2.2.2.1
theorem dX11_clauseHere_118 : decode cX11_clauseHere 118 = .ok (.putfield 236, 3) := gdX11_clauseHere_96.2.2.2.2.2.2.2.2.2.2.2.2.2.1
theorem dX11_clauseHere_121 : decode cX11_clauseHere 121 = .ok (.iload_n 2, 1) := gdX11_clauseHere_96.2.2.2.2.2.2.2.2.2.2.2.2.2.2.1
theorem dX11_clauseHere_122 : decode cX11_clauseHere 122 = .ok (.ifCond .ne 8, 3) := gdX11_clauseHere_96.2.2.2.2.2.2.2.2.2.2.2.2.2.2.2
theorem gdX11_clauseHere_125 : (decode cX11_clauseHere 125 = .ok (.aload_n 0, 1)) ∧ (decode cX11_clauseHere 126 = .ok (.invokevirtual 239, 3)) ∧ (decode cX11_clauseHere 129 = .ok (.ireturn, 1)) ∧ (decode cX11_clauseHere 130 = .ok (.aload_n 0, 1)) ∧ (decode cX11_clauseHere 131 = .ok (.ldc2_w 139, 3)) ∧ (decode cX11_clauseHere 134 = .ok (.invokevirtual 114, 3)) ∧ (decode cX11_clauseHere 137 = .ok (.ifCond .eq 11, 3)) ∧ (decode cX11_clauseHere 140 = .ok (.aload_n 0, 1)) ∧ (decode cX11_clauseHere 141 = .ok (.iload_n 1, 1)) ∧ (decode cX11_clauseHere 142 = .ok (.invokevirtual 242, 3)) ∧ (decode cX11_clauseHere 145 = .ok (.goto 26, 3)) ∧ (decode cX11_clauseHere 148 = .ok (.aload_n 0, 1)) ∧ (decode cX11_clauseHere 149 = .ok (.ldc2_w 232, 3)) ∧ (decode cX11_clauseHere 152 = .ok (.invokevirtual 114, 3)) ∧ (decode cX11_clauseHere 155 = .ok (.ifCond .eq 11, 3)) ∧ (decode cX11_clauseHere 158 = .ok (.aload_n 0, 1)) := by decide +kernel
theorem dX11_clauseHere_125 : decode cX11_clauseHere 125 = .ok (.aload_n 0, 1) := gdX11_clauseHere_125.1
theorem dX11_clauseHere_126 : decode cX11_clauseHere 126 = .ok (.invokevirtual 239, 3) := gdX11_clauseHere_125.2.1
theorem dX11_clauseHere_129 : decode cX11_clauseHere 129 = .ok (.ireturn, 1) := gdX11_clauseHere_125.2.2.1
theorem dX11_clauseHere_130 : decode cX11_clauseHere 130 = .ok (.aload_n 0, 1) := gdX11_clauseHere_125.2.2.2.1
theorem dX11_clauseHere_131 : decode cX11_clauseHere 131 = .ok (.ldc2_w 139, 3) := gdX11_clauseHere_125.2.2.2.2.1
theorem dX11_clauseHere_134 : decode cX11_clauseHere 134 = .ok (.invokevirtual 114, 3) := gdX11_clauseHere_125.2.2.2.2.2.1
theorem dX11_clauseHere_137 : decode cX11_clauseHere 137 = .ok (.ifCond .eq 11, 3) := gdX11_clauseHere_125.2.2.2.2.2.2.1
theorem dX11_clauseHere_140 : decode cX11_clauseHere 140 = .ok (.aload_n 0, 1) := gdX11_clauseHere_125.2.2.2.2.2.2.2.1
theorem dX11_clauseHere_141 : decode cX11_clauseHere 141 = .ok (.iload_n 1, 1) := gdX11_clauseHere_125.2.2.2.2.2.2.2.2.1
theorem dX11_clauseHere_142 : decode cX11_clauseHere 142 = .ok (.invokevirtual 242, 3) := gdX11_clauseHere_125.2.2.2.2.2.2.2.2.2.1
theorem dX11_clauseHere_145 : decode cX11_clauseHere 145 = .ok (.goto 26, 3) := gdX11_clauseHere_125.2.2.2.2.2.2.2.2.2.2.1
theorem dX11_clauseHere_148 : decode cX11_clauseHere 148 = .ok (.aload_n 0, 1) := gdX11_clauseHere_125.2.2.2.2.2.2.2.2.2.2.2.1
theorem dX11_clauseHere_149 : decode cX11_clauseHere 149 = .ok (.ldc2_w 232, 3) := gdX11_clauseHere_125.2.2.2.2.2.2.2.2.2.2.2.2.1
theorem dX11_clauseHere_152 : decode cX11_clauseHere 152 = .ok (.invokevirtual 114, 3) := gdX11_clauseHere_125.2.2.2.2.2.2.2.2.2.2.2.2.2.1
theorem dX11_clauseHere_155 : decode cX11_clauseHere 155 = .ok (.ifCond .eq 11, 3) := gdX11_clauseHere_125.2.2.2.2.2.2.2.2.2.2.2.2.2.2.1
theorem dX11_clauseHere_158 : decode cX11_clauseHere 158 = .ok (.aload_n 0, 1) := gdX11_clauseHere_125.2.2.2.2.2.2.2.2.2.2.2.2.2.2.2
theorem gdX11_clauseHere_159 : (decode cX11_clauseHere 159 = .ok (.iload_n 1, 1)) ∧ (decode cX11_clauseHere 160 = .ok (.invokevirtual 245, 3)) ∧ (decode cX11_clauseHere 163 = .ok (.goto 8, 3)) ∧ (decode cX11_clauseHere 166 = .ok (.aload_n 0, 1)) ∧ (decode cX11_clauseHere 167 = .ok (.iload_n 1, 1)) ∧ (decode cX11_clauseHere 168 = .ok (.invokevirtual 248, 3)) ∧ (decode cX11_clauseHere 171 = .ok (.ireturn, 1)) := by decide +kernel
theorem dX11_clauseHere_159 : decode cX11_clauseHere 159 = .ok (.iload_n 1, 1) := gdX11_clauseHere_159.1
theorem dX11_clauseHere_160 : decode cX11_clauseHere 160 = .ok (.invokevirtual 245, 3) := gdX11_clauseHere_159.2.1
theorem dX11_clauseHere_163 : decode cX11_clauseHere 163 = .ok (.goto 8, 3) := gdX11_clauseHere_159.2.2.1
theorem dX11_clauseHere_166 : decode cX11_clauseHere 166 = .ok (.aload_n 0, 1) := gdX11_clauseHere_159.2.2.2.1
theorem dX11_clauseHere_167 : decode cX11_clauseHere 167 = .ok (.iload_n 1, 1) := gdX11_clauseHere_159.2.2.2.2.1
theorem dX11_clauseHere_168 : decode cX11_clauseHere 168 = .ok (.invokevirtual 248, 3) := gdX11_clauseHere_159.2.2.2.2.2.1
theorem dX11_clauseHere_171 : decode cX11_clauseHere 171 = .ok (.ireturn, 1) := gdX11_clauseHere_159.2.2.2.2.2.2
theorem gdX11_readsAll_0 : (decode cX11_readsAll 0 = .ok (.aload_n 0, 1)) ∧ (decode cX11_readsAll 1 = .ok (.getfield 17, 3)) ∧ (decode cX11_readsAll 4 = .ok (.aload_n 0, 1)) ∧ (decode cX11_readsAll 5 = .ok (.getfield 151, 3)) ∧ (decode cX11_readsAll 8 = .ok (.iconst 0, 1)) ∧ (decode cX11_readsAll 9 = .ok (.iastore, 1)) ∧ (decode cX11_readsAll 10 = .ok (.aload_n 0, 1)) ∧ (decode cX11_readsAll 11 = .ok (.iconst 0, 1)) ∧ (decode cX11_readsAll 12 = .ok (.putfield 236, 3)) ∧ (decode cX11_readsAll 15 = .ok (.aload_n 0, 1)) ∧ (decode cX11_readsAll 16 = .ok (.iconst 0, 1)) ∧ (decode cX11_readsAll 17 = .ok (.putfield 103, 3)) ∧ (decode cX11_readsAll 20 = .ok (.aload_n 0, 1)) ∧ (decode cX11_readsAll 21 = .ok (.iconst 0, 1)) ∧ (decode cX11_readsAll 22 = .ok (.putfield 100, 3)) ∧ (decode cX11_readsAll 25 = .ok (.aload_n 0, 1)) := by decide +kernel
theorem dX11_readsAll_0 : decode cX11_readsAll 0 = .ok (.aload_n 0, 1) := gdX11_readsAll_0.1
theorem dX11_readsAll_1 : decode cX11_readsAll 1 = .ok (.getfield 17, 3) := gdX11_readsAll_0.2.1
theorem dX11_readsAll_4 : decode cX11_readsAll 4 = .ok (.aload_n 0, 1) := gdX11_readsAll_0.2.2.1
theorem dX11_readsAll_5 : decode cX11_readsAll 5 = .ok (.getfield 151, 3) := gdX11_readsAll_0.2.2.2.1
theorem dX11_readsAll_8 : decode cX11_readsAll 8 = .ok (.iconst 0, 1) := gdX11_readsAll_0.2.2.2.2.1
theorem dX11_readsAll_9 : decode cX11_readsAll 9 = .ok (.iastore, 1) := gdX11_readsAll_0.2.2.2.2.2.1
theorem dX11_readsAll_10 : decode cX11_readsAll 10 = .ok (.aload_n 0, 1) := gdX11_readsAll_0.2.2.2.2.2.2.1
theorem dX11_readsAll_11 : decode cX11_readsAll 11 = .ok (.iconst 0, 1) := gdX11_readsAll_0.2.2.2.2.2.2.2.1
theorem dX11_readsAll_12 : decode cX11_readsAll 12 = .ok (.putfield 236, 3) := gdX11_readsAll_0.2.2.2.2.2.2.2.2.1
theorem dX11_readsAll_15 : decode cX11_readsAll 15 = .ok (.aload_n 0, 1) := gdX11_readsAll_0.2.2.2.2.2.2.2.2.2.1
theorem dX11_readsAll_16 : decode cX11_readsAll 16 = .ok (.iconst 0, 1) := gdX11_readsAll_0.2.2.2.2.2.2.2.2.2.2.1
theorem dX11_readsAll_17 : decode cX11_readsAll 17 = .ok (.putfield 103, 3) := gdX11_readsAll_0.2.2.2.2.2.2.2.2.2.2.2.1
theorem dX11_readsAll_20 : decode cX11_readsAll 20 = .ok (.aload_n 0, 1) := gdX11_readsAll_0.2.2.2.2.2.2.2.2.2.2.2.2.1
theorem dX11_readsAll_21 : decode cX11_readsAll 21 = .ok (.iconst 0, 1) := gdX11_readsAll_0.2.2.2.2.2.2.2.2.2.2.2.2.2.1
theorem dX11_readsAll_22 : decode cX11_readsAll 22 = .ok (.putfield 100, 3) := gdX11_readsAll_0.2.2.2.2.2.2.2.2.2.2.2.2.2.2.1
theorem dX11_readsAll_25 : decode cX11_readsAll 25 = .ok (.aload_n 0, 1) := gdX11_readsAll_0.2.2.2.2.2.2.2.2.2.2.2.2.2.2.2
theorem gdX11_readsAll_26 : (decode cX11_readsAll 26 = .ok (.iconst 0, 1)) ∧ (decode cX11_readsAll 27 = .ok (.putfield 154, 3)) ∧ (decode cX11_readsAll 30 = .ok (.aload_n 0, 1)) ∧ (decode cX11_readsAll 31 = .ok (.invokevirtual 251, 3)) ∧ (decode cX11_readsAll 34 = .ok (.istore_n 1, 1)) ∧ (decode cX11_readsAll 35 = .ok (.iload_n 1, 1)) ∧ (decode cX11_readsAll 36 = .ok (.ifCond .eq 30, 3)) ∧ (decode cX11_readsAll 39 = .ok (.aload_n 0, 1)) ∧ (decode cX11_readsAll 40 = .ok (.invokevirtual 106, 3)) ∧ (decode cX11_readsAll 43 = .ok (.bipush 59, 2)) ∧ (decode cX11_readsAll 45 = .ok (.if_icmp .ne 21, 3)) ∧ (decode cX11_readsAll 48 = .ok (.aload_n 0, 1)) ∧ (decode cX11_readsAll 49 = .ok (.dup, 1)) ∧ (decode cX11_readsAll 50 = .ok (.getfield 103, 3)) ∧ (decode cX11_readsAll 53 = .ok (.iconst 1, 1)) ∧ (decode cX11_readsAll 54 = .ok (.iadd, 1)) := by decide +kernel
theorem dX11_readsAll_26 : decode cX11_readsAll 26 = .ok (.iconst 0, 1) := gdX11_readsAll_26.1
theorem dX11_readsAll_27 : decode cX11_readsAll 27 = .ok (.putfield 154, 3) := gdX11_readsAll_26.2.1
theorem dX11_readsAll_30 : decode cX11_readsAll 30 = .ok (.aload_n 0, 1) := gdX11_readsAll_26.2.2.1
theorem dX11_readsAll_31 : decode cX11_readsAll 31 = .ok (.invokevirtual 251, 3) := gdX11_readsAll_26.2.2.2.1
theorem dX11_readsAll_34 : decode cX11_readsAll 34 = .ok (.istore_n 1, 1) := gdX11_readsAll_26.2.2.2.2.1
theorem dX11_readsAll_35 : decode cX11_readsAll 35 = .ok (.iload_n 1, 1) := gdX11_readsAll_26.2.2.2.2.2.1
theorem dX11_readsAll_36 : decode cX11_readsAll 36 = .ok (.ifCond .eq 30, 3) := gdX11_readsAll_26.2.2.2.2.2.2.1
theorem dX11_readsAll_39 : decode cX11_readsAll 39 = .ok (.aload_n 0, 1) := gdX11_readsAll_26.2.2.2.2.2.2.2.1
theorem dX11_readsAll_40 : decode cX11_readsAll 40 = .ok (.invokevirtual 106, 3) := gdX11_readsAll_26.2.2.2.2.2.2.2.2.1
theorem dX11_readsAll_43 : decode cX11_readsAll 43 = .ok (.bipush 59, 2) := gdX11_readsAll_26.2.2.2.2.2.2.2.2.2.1
theorem dX11_readsAll_45 : decode cX11_readsAll 45 = .ok (.if_icmp .ne 21, 3) := gdX11_readsAll_26.2.2.2.2.2.2.2.2.2.2.1
theorem dX11_readsAll_48 : decode cX11_readsAll 48 = .ok (.aload_n 0, 1) := gdX11_readsAll_26.2.2.2.2.2.2.2.2.2.2.2.1
theorem dX11_readsAll_49 : decode cX11_readsAll 49 = .ok (.dup, 1) := gdX11_readsAll_26.2.2.2.2.2.2.2.2.2.2.2.2.1
theorem dX11_readsAll_50 : decode cX11_readsAll 50 = .ok (.getfield 103, 3) := gdX11_readsAll_26.2.2.2.2.2.2.2.2.2.2.2.2.2.1
theorem dX11_readsAll_53 : decode cX11_readsAll 53 = .ok (.iconst 1, 1) := gdX11_readsAll_26.2.2.2.2.2.2.2.2.2.2.2.2.2.2.1
theorem dX11_readsAll_54 : decode cX11_readsAll 54 = .ok (.iadd, 1) := gdX11_readsAll_26.2.2.2.2.2.2.2.2.2.2.2.2.2.2.2
theorem gdX11_readsAll_55 : (decode cX11_readsAll 55 = .ok (.putfield 103, 3)) ∧ (decode cX11_readsAll 58 = .ok (.aload_n 0, 1)) ∧ (decode cX11_readsAll 59 = .ok (.invokevirtual 251, 3)) ∧ (decode cX11_readsAll 62 = .ok (.istore_n 1, 1)) ∧ (decode cX11_readsAll 63 = .ok (.goto (-28), 3)) ∧ (decode cX11_readsAll 66 = .ok (.iload_n 1, 1)) ∧ (decode cX11_readsAll 67 = .ok (.ifCond .eq 21, 3)) ∧ (decode cX11_readsAll 70 = .ok (.aload_n 0, 1)) ∧ (decode cX11_readsAll 71 = .ok (.invokevirtual 106, 3)) ∧ (decode cX11_readsAll 74 = .ok (.iconst (-1), 1)) ∧ (decode cX11_readsAll 75 = .ok (.if_icmp .eq 13, 3)) ∧ (decode cX11_readsAll 78 = .ok (.aload_n 0, 1)) ∧ (decode cX11_readsAll 79 = .ok (.iconst 0, 1)) ∧ (decode cX11_readsAll 80 = .ok (.aload_n 0, 1)) ∧ (decode cX11_readsAll 81 = .ok (.getfield 103, 3)) ∧ (decode cX11_readsAll 84 = .ok (.invokevirtual 124, 3)) := by decide +kernel
theorem dX11_readsAll_55 : decode cX11_readsAll 55 = .ok (.putfield 103, 3) := gdX11_readsAll_55.1
theorem dX11_readsAll_58 : decode cX11_readsAll 58 = .ok (.aload_n 0, 1) := gdX11_readsAll_55.2.1
theorem dX11_readsAll_59 : decode cX11_readsAll 59 = .ok (.invokevirtual 251, 3) := gdX11_readsAll_55.2.2.1
theorem dX11_readsAll_62 : decode cX11_readsAll 62 = .ok (.istore_n 1, 1) := gdX11_readsAll_55.2.2.2.1
theorem dX11_readsAll_63 : decode cX11_readsAll 63 = .ok (.goto (-28), 3) := gdX11_readsAll_55.2.2.2.2.1
theorem dX11_readsAll_66 : decode cX11_readsAll 66 = .ok (.iload_n 1, 1) := gdX11_readsAll_55.2.2.2.2.2.1
theorem dX11_readsAll_67 : decode cX11_readsAll 67 = .ok (.ifCond .eq 21, 3) := gdX11_readsAll_55.2.2.2.2.2.2.1
theorem dX11_readsAll_70 : decode cX11_readsAll 70 = .ok (.aload_n 0, 1) := gdX11_readsAll_55.2.2.2.2.2.2.2.1
theorem dX11_readsAll_71 : decode cX11_readsAll 71 = .ok (.invokevirtual 106, 3) := gdX11_readsAll_55.2.2.2.2.2.2.2.2.1
theorem dX11_readsAll_74 : decode cX11_readsAll 74 = .ok (.iconst (-1), 1) := gdX11_readsAll_55.2.2.2.2.2.2.2.2.2.1
theorem dX11_readsAll_75 : decode cX11_readsAll 75 = .ok (.if_icmp .eq 13, 3) := gdX11_readsAll_55.2.2.2.2.2.2.2.2.2.2.1
theorem dX11_readsAll_78 : decode cX11_readsAll 78 = .ok (.aload_n 0, 1) := gdX11_readsAll_55.2.2.2.2.2.2.2.2.2.2.2.1
theorem dX11_readsAll_79 : decode cX11_readsAll 79 = .ok (.iconst 0, 1) := gdX11_readsAll_55.2.2.2.2.2.2.2.2.2.2.2.2.1
theorem dX11_readsAll_80 : decode cX11_readsAll 80 = .ok (.aload_n 0, 1) := gdX11_readsAll_55.2.2.2.2.2.2.2.2.2.2.2.2.2.1
theorem dX11_readsAll_81 : decode cX11_readsAll 81 = .ok (.getfield 103, 3) := gdX11_readsAll_55.2.2.2.2.2.2.2.2.2.2.2.2.2.2.1
theorem dX11_readsAll_84 : decode cX11_readsAll 84 = .ok (.invokevirtual 124, 3) := gdX11_readsAll_55.2.2.2.2.2.2.2.2.2.2.2.2.2.2.2
theorem gdX11_readsAll_87 : (decode cX11_readsAll 87 = .ok (.istore_n 1, 1)) ∧ (decode cX11_readsAll 88 = .ok (.iload_n 1, 1)) ∧ (decode cX11_readsAll 89 = .ok (.ifCond .eq 29, 3)) ∧ (decode cX11_readsAll 92 = .ok (.aload_n 0, 1)) ∧ (decode cX11_readsAll 93 = .ok (.getfield 151, 3)) ∧ (decode cX11_readsAll 96 = .ok (.bipush 6, 2)) ∧ (decode cX11_readsAll 98 = .ok (.if_icmp .ne 20, 3)) ∧ (decode cX11_readsAll 101 = .ok (.aload_n 0, 1)) ∧ (decode cX11_readsAll 102 = .ok (.getfield 223, 3)) ∧ (decode cX11_readsAll 105 = .ok (.ifCond .ne 13, 3)) ∧ (decode cX11_readsAll 108 = .ok (.aload_n 0, 1)) ∧ (decode cX11_readsAll 109 = .ok (.iconst 0, 1)) ∧ (decode cX11_readsAll 110 = .ok (.aload_n 0, 1)) ∧ (decode cX11_readsAll 111 = .ok (.getfield 103, 3)) ∧ (decode cX11_readsAll 114 = .ok (.invokevirtual 124, 3)) ∧ (decode cX11_readsAll 117 = .ok (.pop, 1)) := by decide +kernel
theorem dX11_readsAll_87 : decode cX11_readsAll 87 = .ok (.istore_n 1, 1) := gdX11_readsAll_87.1
theorem dX11_readsAll_88 : decode cX11_readsAll 88 = .ok (.iload_n 1, 1) := gdX11_readsAll_87.2.1
theorem dX11_readsAll_89 : decode cX11_readsAll 89 = .ok (.ifCond .eq 29, 3) := gdX11_readsAll_87.2.2.1
theorem dX11_readsAll_92 : decode cX11_readsAll 92 = .ok (.aload_n 0, 1) := gdX11_readsAll_87.2.2.2.1
theorem dX11_readsAll_93 : decode cX11_readsAll 93 = .ok (.getfield 151, 3) := gdX11_readsAll_87.2.2.2.2.1
theorem dX11_readsAll_96 : decode cX11_readsAll 96 = .ok (.bipush 6, 2) := gdX11_readsAll_87.2.2.2.2.2.1
theorem dX11_readsAll_98 : decode cX11_readsAll 98 = .ok (.if_icmp .ne 20, 3) := gdX11_readsAll_87.2.2.2.2.2.2.1
theorem dX11_readsAll_101 : decode cX11_readsAll 101 = .ok (.aload_n 0, 1) := gdX11_readsAll_87.2.2.2.2.2.2.2.1
theorem dX11_readsAll_102 : decode cX11_readsAll 102 = .ok (.getfield 223, 3) := gdX11_readsAll_87.2.2.2.2.2.2.2.2.1
theorem dX11_readsAll_105 : decode cX11_readsAll 105 = .ok (.ifCond .ne 13, 3) := gdX11_readsAll_87.2.2.2.2.2.2.2.2.2.1
theorem dX11_readsAll_108 : decode cX11_readsAll 108 = .ok (.aload_n 0, 1) := gdX11_readsAll_87.2.2.2.2.2.2.2.2.2.2.1
theorem dX11_readsAll_109 : decode cX11_readsAll 109 = .ok (.iconst 0, 1) := gdX11_readsAll_87.2.2.2.2.2.2.2.2.2.2.2.1
theorem dX11_readsAll_110 : decode cX11_readsAll 110 = .ok (.aload_n 0, 1) := gdX11_readsAll_87.2.2.2.2.2.2.2.2.2.2.2.2.1
theorem dX11_readsAll_111 : decode cX11_readsAll 111 = .ok (.getfield 103, 3) := gdX11_readsAll_87.2.2.2.2.2.2.2.2.2.2.2.2.2.1
theorem dX11_readsAll_114 : decode cX11_readsAll 114 = .ok (.invokevirtual 124, 3) := gdX11_readsAll_87.2.2.2.2.2.2.2.2.2.2.2.2.2.2.1
theorem dX11_readsAll_117 : decode cX11_readsAll 117 = .ok (.pop, 1) := gdX11_readsAll_87.2.2.2.2.2.2.2.2.2.2.2.2.2.2.2
theorem gdX11_readsAll_118 : (decode cX11_readsAll 118 = .ok (.aload_n 0, 1)) ∧ (decode cX11_readsAll 119 = .ok (.iconst 0, 1)) ∧ (decode cX11_readsAll 120 = .ok (.putfield 92, 3)) ∧ (decode cX11_readsAll 123 = .ok (.aload_n 0, 1)) ∧ (decode cX11_readsAll 124 = .ok (.getfield 100, 3)) ∧ (decode cX11_readsAll 127 = .ok (.ifCond .ne 7, 3)) ∧ (decode cX11_readsAll 130 = .ok (.iconst 1, 1)) ∧ (decode cX11_readsAll 131 = .ok (.goto 4, 3)) ∧ (decode cX11_readsAll 134 = .ok (.iconst 0, 1)) ∧ (decode cX11_readsAll 135 = .ok (.ireturn, 1)) := by decide +kernel
theorem dX11_readsAll_118 : decode cX11_readsAll 118 = .ok (.aload_n 0, 1) := gdX11_readsAll_118.1
theorem dX11_readsAll_119 : decode cX11_readsAll 119 = .ok (.iconst 0, 1) := gdX11_readsAll_118.2.1
theorem dX11_readsAll_120 : decode cX11_readsAll 120 = .ok (.putfield 92, 3) := gdX11_readsAll_118.2.2.1
theorem dX11_readsAll_123 : decode cX11_readsAll 123 = .ok (.aload_n 0, 1) := gdX11_readsAll_118.2.2.2.1
theorem dX11_readsAll_124 : decode cX11_readsAll 124 = .ok (.getfield 100, 3) := gdX11_readsAll_118.2.2.2.2.1
theorem dX11_readsAll_127 : decode cX11_readsAll 127 = .ok (.ifCond .ne 7, 3) := gdX11_readsAll_118.2.2.2.2.2.1
theorem dX11_readsAll_130 : decode cX11_readsAll 130 = .ok (.iconst 1, 1) := gdX11_readsAll_118.2.2.2.2.2.2.1
theorem dX11_readsAll_131 : decode cX11_readsAll 131 = .ok (.goto 4, 3) := gdX11_readsAll_118.2.2.2.2.2.2.2.1
theorem dX11_readsAll_134 : decode cX11_readsAll 134 = .ok (.iconst 0, 1) := gdX11_readsAll_118.2.2.2.2.2.2.2.2.1
theorem dX11_readsAll_135 : decode cX11_readsAll 135 = .ok (.ireturn, 1) := gdX11_readsAll_118.2.2.2.2.2.2.2.2.2
theorem gdX11_rule_0 : (decode cX11_rule 0 = .ok (.aload_n 0, 1)) ∧ (decode cX11_rule 1 = .ok (.getfield 254, 3)) ∧ (decode cX11_rule 4 = .ok (.bipush 6, 2)) ∧ (decode cX11_rule 6 = .ok (.if_icmp .ne 5, 3)) ∧ (decode cX11_rule 9 = .ok (.iconst (-1), 1)) ∧ (decode cX11_rule 10 = .ok (.ireturn, 1)) ∧ (decode cX11_rule 11 = .ok (.aload_n 0, 1)) ∧ (decode cX11_rule 12 = .ok (.aload_n 0, 1)) ∧ (decode cX11_rule 13 = .ok (.getfield 254, 3)) ∧ (decode cX11_rule 16 = .ok (.putfield 151, 3)) ∧ (decode cX11_rule 19 = .ok (.aload_n 0, 1)) ∧ (decode cX11_rule 20 = .ok (.getfield 23, 3)) ∧ (decode cX11_rule 23 = .ok (.aload_n 0, 1)) ∧ (decode cX11_rule 24 = .ok (.getfield 151, 3)) ∧ (decode cX11_rule 27 = .ok (.iconst 0, 1)) ∧ (decode cX11_rule 28 = .ok (.iastore, 1)) := by decide +kernel
theorem dX11_rule_0 : decode cX11_rule 0 = .ok (.aload_n 0, 1) := gdX11_rule_0.1
theorem dX11_rule_1 : decode cX11_rule 1 = .ok (.getfield 254, 3) := gdX11_rule_0.2.1
theorem dX11_rule_4 : decode cX11_rule 4 = .ok (.bipush 6, 2) := gdX11_rule_0.2.2.1
theorem dX11_rule_6 : decode cX11_rule 6 = .ok (.if_icmp .ne 5, 3) := gdX11_rule_0.2.2.2.1
theorem dX11_rule_9 : decode cX11_rule 9 = .ok (.iconst (-1), 1) := gdX11_rule_0.2.2.2.2.1
theorem dX11_rule_10 : decode cX11_rule 10 = .ok (.ireturn, 1) := gdX11_rule_0.2.2.2.2.2.1
theorem dX11_rule_11 : decode cX11_rule 11 = .ok (.aload_n 0, 1) := gdX11_rule_0.2.2.2.2.2.2.1
theorem dX11_rule_12 : decode cX11_rule 12 = .ok (.aload_n 0, 1) := gdX11_rule_0.2.2.2.2.2.2.2.1
theorem dX11_rule_13 : decode cX11_rule 13 = .ok (.getfield 254, 3) := gdX11_rule_0.2.2.2.2.2.2.2.2.1
theorem dX11_rule_16 : decode cX11_rule 16 = .ok (.putfield 151, 3) := gdX11_rule_0.2.2.2.2.2.2.2.2.2.1
theorem dX11_rule_19 : decode cX11_rule 19 = .ok (.aload_n 0, 1) := gdX11_rule_0.2.2.2.2.2.2.2.2.2.2.1
theorem dX11_rule_20 : decode cX11_rule 20 = .ok (.getfield 23, 3) := gdX11_rule_0.2.2.2.2.2.2.2.2.2.2.2.1
theorem dX11_rule_23 : decode cX11_rule 23 = .ok (.aload_n 0, 1) := gdX11_rule_0.2.2.2.2.2.2.2.2.2.2.2.2.1
theorem dX11_rule_24 : decode cX11_rule 24 = .ok (.getfield 151, 3) := gdX11_rule_0.2.2.2.2.2.2.2.2.2.2.2.2.2.1
theorem dX11_rule_27 : decode cX11_rule 27 = .ok (.iconst 0, 1) := gdX11_rule_0.2.2.2.2.2.2.2.2.2.2.2.2.2.2.1
theorem dX11_rule_28 : decode cX11_rule 28 = .ok (.iastore, 1) := gdX11_rule_0.2.2.2.2.2.2.2.2.2.2.2.2.2.2.2
theorem gdX11_rule_29 : (decode cX11_rule 29 = .ok (.aload_n 0, 1)) ∧ (decode cX11_rule 30 = .ok (.invokevirtual 257, 3)) ∧ (decode cX11_rule 33 = .ok (.ifCond .ne 11, 3)) ∧ (decode cX11_rule 36 = .ok (.bipush (-2), 2)) ∧ (decode cX11_rule 38 = .ok (.aload_n 0, 1)) ∧ (decode cX11_rule 39 = .ok (.getfield 100, 3)) ∧ (decode cX11_rule 42 = .ok (.isub, 1)) ∧ (decode cX11_rule 43 = .ok (.ireturn, 1)) ∧ (decode cX11_rule 44 = .ok (.aload_n 0, 1)) ∧ (decode cX11_rule 45 = .ok (.dup, 1)) ∧ (decode cX11_rule 46 = .ok (.getfield 254, 3)) ∧ (decode cX11_rule 49 = .ok (.iconst 1, 1)) ∧ (decode cX11_rule 50 = .ok (.iadd, 1)) ∧ (decode cX11_rule 51 = .ok (.putfield 254, 3)) ∧ (decode cX11_rule 54 = .ok (.aload_n 0, 1)) ∧ (decode cX11_rule 55 = .ok (.getfield 254, 3)) := by decide +kernel
theorem dX11_rule_29 : decode cX11_rule 29 = .ok (.aload_n 0, 1) := gdX11_rule_29.1
theorem dX11_rule_30 : decode cX11_rule 30 = .ok (.invokevirtual 257, 3) := gdX11_rule_29.2.1
theorem dX11_rule_33 : decode cX11_rule 33 = .ok (.ifCond .ne 11, 3) := gdX11_rule_29.2.2.1
theorem dX11_rule_36 : decode cX11_rule 36 = .ok (.bipush (-2), 2) := gdX11_rule_29.2.2.2.1
theorem dX11_rule_38 : decode cX11_rule 38 = .ok (.aload_n 0, 1) := gdX11_rule_29.2.2.2.2.1
theorem dX11_rule_39 : decode cX11_rule 39 = .ok (.getfield 100, 3) := gdX11_rule_29.2.2.2.2.2.1
theorem dX11_rule_42 : decode cX11_rule 42 = .ok (.isub, 1) := gdX11_rule_29.2.2.2.2.2.2.1
theorem dX11_rule_43 : decode cX11_rule 43 = .ok (.ireturn, 1) := gdX11_rule_29.2.2.2.2.2.2.2.1
theorem dX11_rule_44 : decode cX11_rule 44 = .ok (.aload_n 0, 1) := gdX11_rule_29.2.2.2.2.2.2.2.2.1
theorem dX11_rule_45 : decode cX11_rule 45 = .ok (.dup, 1) := gdX11_rule_29.2.2.2.2.2.2.2.2.2.1
theorem dX11_rule_46 : decode cX11_rule 46 = .ok (.getfield 254, 3) := gdX11_rule_29.2.2.2.2.2.2.2.2.2.2.1
theorem dX11_rule_49 : decode cX11_rule 49 = .ok (.iconst 1, 1) := gdX11_rule_29.2.2.2.2.2.2.2.2.2.2.2.1
theorem dX11_rule_50 : decode cX11_rule 50 = .ok (.iadd, 1) := gdX11_rule_29.2.2.2.2.2.2.2.2.2.2.2.2.1
theorem dX11_rule_51 : decode cX11_rule 51 = .ok (.putfield 254, 3) := gdX11_rule_29.2.2.2.2.2.2.2.2.2.2.2.2.2.1
theorem dX11_rule_54 : decode cX11_rule 54 = .ok (.aload_n 0, 1) := gdX11_rule_29.2.2.2.2.2.2.2.2.2.2.2.2.2.2.1
theorem dX11_rule_55 : decode cX11_rule 55 = .ok (.getfield 254, 3) := gdX11_rule_29.2.2.2.2.2.2.2.2.2.2.2.2.2.2.2
theorem gdX11_rule_58 : (decode cX11_rule 58 = .ok (.iconst 1, 1)) ∧ (decode cX11_rule 59 = .ok (.isub, 1)) ∧ (decode cX11_rule 60 = .ok (.ireturn, 1)) := by decide +kernel
theorem dX11_rule_58 : decode cX11_rule 58 = .ok (.iconst 1, 1) := gdX11_rule_58.1
theorem dX11_rule_59 : decode cX11_rule 59 = .ok (.isub, 1) := gdX11_rule_58.2.1
theorem dX11_rule_60 : decode cX11_rule 60 = .ok (.ireturn, 1) := gdX11_rule_58.2.2
theorem gdX11_tower_0 : (decode cX11_tower 0 = .ok (.aload_n 0, 1)) ∧ (decode cX11_tower 1 = .ok (.bipush 6, 2)) ∧ (decode cX11_tower 3 = .ok (.putfield 151, 3)) ∧ (decode cX11_tower 6 = .ok (.aload_n 0, 1)) ∧ (decode cX11_tower 7 = .ok (.iconst 0, 1)) ∧ (decode cX11_tower 8 = .ok (.putfield 223, 3)) ∧ (decode cX11_tower 11 = .ok (.aload_n 0, 1)) ∧ (decode cX11_tower 12 = .ok (.iconst 0, 1)) ∧ (decode cX11_tower 13 = .ok (.putfield 226, 3)) ∧ (decode cX11_tower 16 = .ok (.aload_n 0, 1)) ∧ (decode cX11_tower 17 = .ok (.iconst 0, 1)) ∧ (decode cX11_tower 18 = .ok (.putfield 229, 3)) ∧ (decode cX11_tower 21 = .ok (.aload_n 0, 1)) ∧ (decode cX11_tower 22 = .ok (.invokevirtual 257, 3)) ∧ (decode cX11_tower 25 = .ok (.ifCond .ne 11, 3)) ∧ (decode cX11_tower 28 = .ok (.bipush (-2), 2)) := by decide +kernel
theorem dX11_tower_0 : decode cX11_tower 0 = .ok (.aload_n 0, 1) := gdX11_tower_0.1
theorem dX11_tower_1 : decode cX11_tower 1 = .ok (.bipush 6, 2) := gdX11_tower_0.2.1
theorem dX11_tower_3 : decode cX11_tower 3 = .ok (.putfield 151, 3) := gdX11_tower_0.2.2.1
theorem dX11_tower_6 : decode cX11_tower 6 = .ok (.aload_n 0, 1) := gdX11_tower_0.2.2.2.1
theorem dX11_tower_7 : decode cX11_tower 7 = .ok (.iconst 0, 1) := gdX11_tower_0.2.2.2.2.1
theorem dX11_tower_8 : decode cX11_tower 8 = .ok (.putfield 223, 3) := gdX11_tower_0.2.2.2.2.2.1
theorem dX11_tower_11 : decode cX11_tower 11 = .ok (.aload_n 0, 1) := gdX11_tower_0.2.2.2.2.2.2.1
theorem dX11_tower_12 : decode cX11_tower 12 = .ok (.iconst 0, 1) := gdX11_tower_0.2.2.2.2.2.2.2.1
theorem dX11_tower_13 : decode cX11_tower 13 = .ok (.putfield 226, 3) := gdX11_tower_0.2.2.2.2.2.2.2.2.1
theorem dX11_tower_16 : decode cX11_tower 16 = .ok (.aload_n 0, 1) := gdX11_tower_0.2.2.2.2.2.2.2.2.2.1
theorem dX11_tower_17 : decode cX11_tower 17 = .ok (.iconst 0, 1) := gdX11_tower_0.2.2.2.2.2.2.2.2.2.2.1
theorem dX11_tower_18 : decode cX11_tower 18 = .ok (.putfield 229, 3) := gdX11_tower_0.2.2.2.2.2.2.2.2.2.2.2.1
theorem dX11_tower_21 : decode cX11_tower 21 = .ok (.aload_n 0, 1) := gdX11_tower_0.2.2.2.2.2.2.2.2.2.2.2.2.1
theorem dX11_tower_22 : decode cX11_tower 22 = .ok (.invokevirtual 257, 3) := gdX11_tower_0.2.2.2.2.2.2.2.2.2.2.2.2.2.1
theorem dX11_tower_25 : decode cX11_tower 25 = .ok (.ifCond .ne 11, 3) := gdX11_tower_0.2.2.2.2.2.2.2.2.2.2.2.2.2.2.1
theorem dX11_tower_28 : decode cX11_tower 28 = .ok (.bipush (-2), 2) := gdX11_tower_0.2.2.2.2.2.2.2.2.2.2.2.2.2.2.2
theorem gdX11_tower_30 : (decode cX11_tower 30 = .ok (.aload_n 0, 1)) ∧ (decode cX11_tower 31 = .ok (.getfield 100, 3)) ∧ (decode cX11_tower 34 = .ok (.isub, 1)) ∧ (decode cX11_tower 35 = .ok (.ireturn, 1)) ∧ (decode cX11_tower 36 = .ok (.aload_n 0, 1)) ∧ (decode cX11_tower 37 = .ok (.getfield 45, 3)) ∧ (decode cX11_tower 40 = .ok (.iconst 0, 1)) ∧ (decode cX11_tower 41 = .ok (.aload_n 0, 1)) ∧ (decode cX11_tower 42 = .ok (.getfield 223, 3)) ∧ (decode cX11_tower 45 = .ok (.iastore, 1)) ∧ (decode cX11_tower 46 = .ok (.aload_n 0, 1)) ∧ (decode cX11_tower 47 = .ok (.getfield 45, 3)) ∧ (decode cX11_tower 50 = .ok (.iconst 1, 1)) ∧ (decode cX11_tower 51 = .ok (.aload_n 0, 1)) ∧ (decode cX11_tower 52 = .ok (.getfield 226, 3)) ∧ (decode cX11_tower 55 = .ok (.iastore, 1)) := by decide +kernel
theorem dX11_tower_30 : decode cX11_tower 30 = .ok (.aload_n 0, 1) := gdX11_tower_30.1
theorem dX11_tower_31 : decode cX11_tower 31 = .ok (.getfield 100, 3) := gdX11_tower_30.2.1
theorem dX11_tower_34 : decode cX11_tower 34 = .ok (.isub, 1) := gdX11_tower_30.2.2.1
theorem dX11_tower_35 : decode cX11_tower 35 = .ok (.ireturn, 1) := gdX11_tower_30.2.2.2.1
theorem dX11_tower_36 : decode cX11_tower 36 = .ok (.aload_n 0, 1) := gdX11_tower_30.2.2.2.2.1
theorem dX11_tower_37 : decode cX11_tower 37 = .ok (.getfield 45, 3) := gdX11_tower_30.2.2.2.2.2.1
theorem dX11_tower_40 : decode cX11_tower 40 = .ok (.iconst 0, 1) := gdX11_tower_30.2.2.2.2.2.2.1
theorem dX11_tower_41 : decode cX11_tower 41 = .ok (.aload_n 0, 1) := gdX11_tower_30.2.2.2.2.2.2.2.1
theorem dX11_tower_42 : decode cX11_tower 42 = .ok (.getfield 223, 3) := gdX11_tower_30.2.2.2.2.2.2.2.2.1
theorem dX11_tower_45 : decode cX11_tower 45 = .ok (.iastore, 1) := gdX11_tower_30.2.2.2.2.2.2.2.2.2.1
theorem dX11_tower_46 : decode cX11_tower 46 = .ok (.aload_n 0, 1) := gdX11_tower_30.2.2.2.2.2.2.2.2.2.2.1
theorem dX11_tower_47 : decode cX11_tower 47 = .ok (.getfield 45, 3) := gdX11_tower_30.2.2.2.2.2.2.2.2.2.2.2.1
theorem dX11_tower_50 : decode cX11_tower 50 = .ok (.iconst 1, 1) := gdX11_tower_30.2.2.2.2.2.2.2.2.2.2.2.2.1
theorem dX11_tower_51 : decode cX11_tower 51 = .ok (.aload_n 0, 1) := gdX11_tower_30.2.2.2.2.2.2.2.2.2.2.2.2.2.1
theorem dX11_tower_52 : decode cX11_tower 52 = .ok (.getfield 226, 3) := gdX11_tower_30.2.2.2.2.2.2.2.2.2.2.2.2.2.2.1
theorem dX11_tower_55 : decode cX11_tower 55 = .ok (.iastore, 1) := gdX11_tower_30.2.2.2.2.2.2.2.2.2.2.2.2.2.2.2
theorem gdX11_tower_56 : (decode cX11_tower 56 = .ok (.aload_n 0, 1)) ∧ (decode cX11_tower 57 = .ok (.getfield 45, 3)) ∧ (decode cX11_tower 60 = .ok (.iconst 2, 1)) ∧ (decode cX11_tower 61 = .ok (.aload_n 0, 1)) ∧ (decode cX11_tower 62 = .ok (.getfield 229, 3)) ∧ (decode cX11_tower 65 = .ok (.iastore, 1)) ∧ (decode cX11_tower 66 = .ok (.aload_n 0, 1)) ∧ (decode cX11_tower 67 = .ok (.getfield 45, 3)) ∧ (decode cX11_tower 70 = .ok (.iconst 3, 1)) ∧ (decode cX11_tower 71 = .ok (.iconst 0, 1)) ∧ (decode cX11_tower 72 = .ok (.iastore, 1)) ∧ (decode cX11_tower 73 = .ok (.aload_n 0, 1)) ∧ (decode cX11_tower 74 = .ok (.getfield 45, 3)) ∧ (decode cX11_tower 77 = .ok (.iconst 4, 1)) ∧ (decode cX11_tower 78 = .ok (.iconst 0, 1)) ∧ (decode cX11_tower 79 = .ok (.iastore, 1)) := by decide +kernel
theorem dX11_tower_56 : decode cX11_tower 56 = .ok (.aload_n 0, 1) := gdX11_tower_56.1
theorem dX11_tower_57 : decode cX11_tower 57 = .ok (.getfield 45, 3) := gdX11_tower_56.2.1
theorem dX11_tower_60 : decode cX11_tower 60 = .ok (.iconst 2, 1) := gdX11_tower_56.2.2.1
theorem dX11_tower_61 : decode cX11_tower 61 = .ok (.aload_n 0, 1) := gdX11_tower_56.2.2.2.1
theorem dX11_tower_62 : decode cX11_tower 62 = .ok (.getfield 229, 3) := gdX11_tower_56.2.2.2.2.1
theorem dX11_tower_65 : decode cX11_tower 65 = .ok (.iastore, 1) := gdX11_tower_56.2.2.2.2.2.1
theorem dX11_tower_66 : decode cX11_tower 66 = .ok (.aload_n 0, 1) := gdX11_tower_56.2.2.2.2.2.2.1
theorem dX11_tower_67 : decode cX11_tower 67 = .ok (.getfield 45, 3) := gdX11_tower_56.2.2.2.2.2.2.2.1
theorem dX11_tower_70 : decode cX11_tower 70 = .ok (.iconst 3, 1) := gdX11_tower_56.2.2.2.2.2.2.2.2.1
theorem dX11_tower_71 : decode cX11_tower 71 = .ok (.iconst 0, 1) := gdX11_tower_56.2.2.2.2.2.2.2.2.2.1
theorem dX11_tower_72 : decode cX11_tower 72 = .ok (.iastore, 1) := gdX11_tower_56.2.2.2.2.2.2.2.2.2.2.1
theorem dX11_tower_73 : decode cX11_tower 73 = .ok (.aload_n 0, 1) := gdX11_tower_56.2.2.2.2.2.2.2.2.2.2.2.1
theorem dX11_tower_74 : decode cX11_tower 74 = .ok (.getfield 45, 3) := gdX11_tower_56.2.2.2.2.2.2.2.2.2.2.2.2.1
theorem dX11_tower_77 : decode cX11_tower 77 = .ok (.iconst 4, 1) := gdX11_tower_56.2.2.2.2.2.2.2.2.2.2.2.2.2.1
theorem dX11_tower_78 : decode cX11_tower 78 = .ok (.iconst 0, 1) := gdX11_tower_56.2.2.2.2.2.2.2.2.2.2.2.2.2.2.1
theorem dX11_tower_79 : decode cX11_tower 79 = .ok (.iastore, 1) := gdX11_tower_56.2.2.2.2.2.2.2.2.2.2.2.2.2.2.2
theorem gdX11_tower_80 : (decode cX11_tower 80 = .ok (.iconst 0, 1)) ∧ (decode cX11_tower 81 = .ok (.istore_n 1, 1)) ∧ (decode cX11_tower 82 = .ok (.iload_n 1, 1)) ∧ (decode cX11_tower 83 = .ok (.iconst 2, 1)) ∧ (decode cX11_tower 84 = .ok (.aload_n 0, 1)) ∧ (decode cX11_tower 85 = .ok (.getfield 223, 3)) ∧ (decode cX11_tower 88 = .ok (.imul, 1)) ∧ (decode cX11_tower 89 = .ok (.if_icmp .ge 24, 3)) ∧ (decode cX11_tower 92 = .ok (.aload_n 0, 1)) ∧ (decode cX11_tower 93 = .ok (.getfield 45, 3)) ∧ (decode cX11_tower 96 = .ok (.bipush 10, 2)) ∧ (decode cX11_tower 98 = .ok (.iload_n 1, 1)) ∧ (decode cX11_tower 99 = .ok (.iadd, 1)) ∧ (decode cX11_tower 100 = .ok (.aload_n 0, 1)) ∧ (decode cX11_tower 101 = .ok (.getfield 26, 3)) ∧ (decode cX11_tower 104 = .ok (.iload_n 1, 1)) := by decide +kernel
theorem dX11_tower_80 : decode cX11_tower 80 = .ok (.iconst 0, 1) := gdX11_tower_80.1
theorem dX11_tower_81 : decode cX11_tower 81 = .ok (.istore_n 1, 1) := gdX11_tower_80.2.1
theorem dX11_tower_82 : decode cX11_tower 82 = .ok (.iload_n 1, 1) := gdX11_tower_80.2.2.1
theorem dX11_tower_83 : decode cX11_tower 83 = .ok (.iconst 2, 1) := gdX11_tower_80.2.2.2.1
theorem dX11_tower_84 : decode cX11_tower 84 = .ok (.aload_n 0, 1) := gdX11_tower_80.2.2.2.2.1
theorem dX11_tower_85 : decode cX11_tower 85 = .ok (.getfield 223, 3) := gdX11_tower_80.2.2.2.2.2.1
theorem dX11_tower_88 : decode cX11_tower 88 = .ok (.imul, 1) := gdX11_tower_80.2.2.2.2.2.2.1
theorem dX11_tower_89 : decode cX11_tower 89 = .ok (.if_icmp .ge 24, 3) := gdX11_tower_80.2.2.2.2.2.2.2.1
theorem dX11_tower_92 : decode cX11_tower 92 = .ok (.aload_n 0, 1) := gdX11_tower_80.2.2.2.2.2.2.2.2.1
theorem dX11_tower_93 : decode cX11_tower 93 = .ok (.getfield 45, 3) := gdX11_tower_80.2.2.2.2.2.2.2.2.2.1
theorem dX11_tower_96 : decode cX11_tower 96 = .ok (.bipush 10, 2) := gdX11_tower_80.2.2.2.2.2.2.2.2.2.2.1
theorem dX11_tower_98 : decode cX11_tower 98 = .ok (.iload_n 1, 1) := gdX11_tower_80.2.2.2.2.2.2.2.2.2.2.2.1
theorem dX11_tower_99 : decode cX11_tower 99 = .ok (.iadd, 1) := gdX11_tower_80.2.2.2.2.2.2.2.2.2.2.2.2.1
theorem dX11_tower_100 : decode cX11_tower 100 = .ok (.aload_n 0, 1) := gdX11_tower_80.2.2.2.2.2.2.2.2.2.2.2.2.2.1
theorem dX11_tower_101 : decode cX11_tower 101 = .ok (.getfield 26, 3) := gdX11_tower_80.2.2.2.2.2.2.2.2.2.2.2.2.2.2.1
theorem dX11_tower_104 : decode cX11_tower 104 = .ok (.iload_n 1, 1) := gdX11_tower_80.2.2.2.2.2.2.2.2.2.2.2.2.2.2.2
theorem gdX11_tower_105 : (decode cX11_tower 105 = .ok (.iaload, 1)) ∧ (decode cX11_tower 106 = .ok (.iastore, 1)) ∧ (decode cX11_tower 107 = .ok (.iinc 1 1, 3)) ∧ (decode cX11_tower 110 = .ok (.goto (-28), 3)) ∧ (decode cX11_tower 113 = .ok (.iconst 0, 1)) ∧ (decode cX11_tower 114 = .ok (.istore_n 1, 1)) ∧ (decode cX11_tower 115 = .ok (.iload_n 1, 1)) ∧ (decode cX11_tower 116 = .ok (.iconst 5, 1)) ∧ (decode cX11_tower 117 = .ok (.aload_n 0, 1)) ∧ (decode cX11_tower 118 = .ok (.getfield 226, 3)) ∧ (decode cX11_tower 121 = .ok (.imul, 1)) ∧ (decode cX11_tower 122 = .ok (.if_icmp .ge 24, 3)) ∧ (decode cX11_tower 125 = .ok (.aload_n 0, 1)) ∧ (decode cX11_tower 126 = .ok (.getfield 45, 3)) ∧ (decode cX11_tower 129 = .ok (.bipush 30, 2)) ∧ (decode cX11_tower 131 = .ok (.iload_n 1, 1)) := by decide +kernel
theorem dX11_tower_105 : decode cX11_tower 105 = .ok (.iaload, 1) := gdX11_tower_105.1
theorem dX11_tower_106 : decode cX11_tower 106 = .ok (.iastore, 1) := gdX11_tower_105.2.1
theorem dX11_tower_107 : decode cX11_tower 107 = .ok (.iinc 1 1, 3) := gdX11_tower_105.2.2.1
theorem dX11_tower_110 : decode cX11_tower 110 = .ok (.goto (-28), 3) := gdX11_tower_105.2.2.2.1
theorem dX11_tower_113 : decode cX11_tower 113 = .ok (.iconst 0, 1) := gdX11_tower_105.2.2.2.2.1
theorem dX11_tower_114 : decode cX11_tower 114 = .ok (.istore_n 1, 1) := gdX11_tower_105.2.2.2.2.2.1
theorem dX11_tower_115 : decode cX11_tower 115 = .ok (.iload_n 1, 1) := gdX11_tower_105.2.2.2.2.2.2.1
theorem dX11_tower_116 : decode cX11_tower 116 = .ok (.iconst 5, 1) := gdX11_tower_105.2.2.2.2.2.2.2.1
theorem dX11_tower_117 : decode cX11_tower 117 = .ok (.aload_n 0, 1) := gdX11_tower_105.2.2.2.2.2.2.2.2.1
theorem dX11_tower_118 : decode cX11_tower 118 = .ok (.getfield 226, 3) := gdX11_tower_105.2.2.2.2.2.2.2.2.2.1
theorem dX11_tower_121 : decode cX11_tower 121 = .ok (.imul, 1) := gdX11_tower_105.2.2.2.2.2.2.2.2.2.2.1
theorem dX11_tower_122 : decode cX11_tower 122 = .ok (.if_icmp .ge 24, 3) := gdX11_tower_105.2.2.2.2.2.2.2.2.2.2.2.1
theorem dX11_tower_125 : decode cX11_tower 125 = .ok (.aload_n 0, 1) := gdX11_tower_105.2.2.2.2.2.2.2.2.2.2.2.2.1
theorem dX11_tower_126 : decode cX11_tower 126 = .ok (.getfield 45, 3) := gdX11_tower_105.2.2.2.2.2.2.2.2.2.2.2.2.2.1
theorem dX11_tower_129 : decode cX11_tower 129 = .ok (.bipush 30, 2) := gdX11_tower_105.2.2.2.2.2.2.2.2.2.2.2.2.2.2.1
theorem dX11_tower_131 : decode cX11_tower 131 = .ok (.iload_n 1, 1) := gdX11_tower_105.2.2.2.2.2.2.2.2.2.2.2.2.2.2.2
theorem gdX11_tower_132 : (decode cX11_tower 132 = .ok (.iadd, 1)) ∧ (decode cX11_tower 133 = .ok (.aload_n 0, 1)) ∧ (decode cX11_tower 134 = .ok (.getfield 29, 3)) ∧ (decode cX11_tower 137 = .ok (.iload_n 1, 1)) ∧ (decode cX11_tower 138 = .ok (.iaload, 1)) ∧ (decode cX11_tower 139 = .ok (.iastore, 1)) ∧ (decode cX11_tower 140 = .ok (.iinc 1 1, 3)) ∧ (decode cX11_tower 143 = .ok (.goto (-28), 3)) ∧ (decode cX11_tower 146 = .ok (.iconst 0, 1)) ∧ (decode cX11_tower 147 = .ok (.istore_n 1, 1)) ∧ (decode cX11_tower 148 = .ok (.iload_n 1, 1)) ∧ (decode cX11_tower 149 = .ok (.aload_n 0, 1)) ∧ (decode cX11_tower 150 = .ok (.getfield 229, 3)) ∧ (decode cX11_tower 153 = .ok (.if_icmp .ge 27, 3)) ∧ (decode cX11_tower 156 = .ok (.aload_n 0, 1)) ∧ (decode cX11_tower 157 = .ok (.iload_n 1, 1)) := by decide +kernel
theorem dX11_tower_132 : decode cX11_tower 132 = .ok (.iadd, 1) := gdX11_tower_132.1
theorem dX11_tower_133 : decode cX11_tower 133 = .ok (.aload_n 0, 1) := gdX11_tower_132.2.1
theorem dX11_tower_134 : decode cX11_tower 134 = .ok (.getfield 29, 3) := gdX11_tower_132.2.2.1
theorem dX11_tower_137 : decode cX11_tower 137 = .ok (.iload_n 1, 1) := gdX11_tower_132.2.2.2.1
theorem dX11_tower_138 : decode cX11_tower 138 = .ok (.iaload, 1) := gdX11_tower_132.2.2.2.2.1
theorem dX11_tower_139 : decode cX11_tower 139 = .ok (.iastore, 1) := gdX11_tower_132.2.2.2.2.2.1
theorem dX11_tower_140 : decode cX11_tower 140 = .ok (.iinc 1 1, 3) := gdX11_tower_132.2.2.2.2.2.2.1
theorem dX11_tower_143 : decode cX11_tower 143 = .ok (.goto (-28), 3) := gdX11_tower_132.2.2.2.2.2.2.2.1
theorem dX11_tower_146 : decode cX11_tower 146 = .ok (.iconst 0, 1) := gdX11_tower_132.2.2.2.2.2.2.2.2.1
theorem dX11_tower_147 : decode cX11_tower 147 = .ok (.istore_n 1, 1) := gdX11_tower_132.2.2.2.2.2.2.2.2.2.1
theorem dX11_tower_148 : decode cX11_tower 148 = .ok (.iload_n 1, 1) := gdX11_tower_132.2.2.2.2.2.2.2.2.2.2.1
theorem dX11_tower_149 : decode cX11_tower 149 = .ok (.aload_n 0, 1) := gdX11_tower_132.2.2.2.2.2.2.2.2.2.2.2.1
theorem dX11_tower_150 : decode cX11_tower 150 = .ok (.getfield 229, 3) := gdX11_tower_132.2.2.2.2.2.2.2.2.2.2.2.2.1
theorem dX11_tower_153 : decode cX11_tower 153 = .ok (.if_icmp .ge 27, 3) := gdX11_tower_132.2.2.2.2.2.2.2.2.2.2.2.2.2.1
theorem dX11_tower_156 : decode cX11_tower 156 = .ok (.aload_n 0, 1) := gdX11_tower_132.2.2.2.2.2.2.2.2.2.2.2.2.2.2.1
theorem dX11_tower_157 : decode cX11_tower 157 = .ok (.iload_n 1, 1) := gdX11_tower_132.2.2.2.2.2.2.2.2.2.2.2.2.2.2.2
theorem gdX11_tower_158 : (decode cX11_tower 158 = .ok (.aload_n 0, 1)) ∧ (decode cX11_tower 159 = .ok (.getfield 32, 3)) ∧ (decode cX11_tower 162 = .ok (.iload_n 1, 1)) ∧ (decode cX11_tower 163 = .ok (.iaload, 1)) ∧ (decode cX11_tower 164 = .ok (.invokevirtual 260, 3)) ∧ (decode cX11_tower 167 = .ok (.aload_n 0, 1)) ∧ (decode cX11_tower 168 = .ok (.getfield 48, 3)) ∧ (decode cX11_tower 171 = .ok (.iload_n 1, 1)) ∧ (decode cX11_tower 172 = .ok (.lconst 0, 1)) ∧ (decode cX11_tower 173 = .ok (.lastore, 1)) ∧ (decode cX11_tower 174 = .ok (.iinc 1 1, 3)) ∧ (decode cX11_tower 177 = .ok (.goto (-29), 3)) ∧ (decode cX11_tower 180 = .ok (.aload_n 0, 1)) ∧ (decode cX11_tower 181 = .ok (.invokevirtual 263, 3)) ∧ (decode cX11_tower 184 = .ok (.aload_n 0, 1)) ∧ (decode cX11_tower 185 = .ok (.getfield 223, 3)) := by decide +kernel
theorem dX11_tower_158 : decode cX11_tower 158 = .ok (.aload_n 0, 1) := gdX11_tower_158.1
theorem dX11_tower_159 : decode cX11_tower 159 = .ok (.getfield 32, 3) := gdX11_tower_158.2.1
theorem dX11_tower_162 : decode cX11_tower 162 = .ok (.iload_n 1, 1) := gdX11_tower_158.2.2.1
theorem dX11_tower_163 : decode cX11_tower 163 = .ok (.iaload, 1) := gdX11_tower_158.2.2.2.1
theorem dX11_tower_164 : decode cX11_tower 164 = .ok (.invokevirtual 260, 3) := gdX11_tower_158.2.2.2.2.1
theorem dX11_tower_167 : decode cX11_tower 167 = .ok (.aload_n 0, 1) := gdX11_tower_158.2.2.2.2.2.1
theorem dX11_tower_168 : decode cX11_tower 168 = .ok (.getfield 48, 3) := gdX11_tower_158.2.2.2.2.2.2.1
theorem dX11_tower_171 : decode cX11_tower 171 = .ok (.iload_n 1, 1) := gdX11_tower_158.2.2.2.2.2.2.2.1
theorem dX11_tower_172 : decode cX11_tower 172 = .ok (.lconst 0, 1) := gdX11_tower_158.2.2.2.2.2.2.2.2.1
theorem dX11_tower_173 : decode cX11_tower 173 = .ok (.lastore, 1) := gdX11_tower_158.2.2.2.2.2.2.2.2.2.1
theorem dX11_tower_174 : decode cX11_tower 174 = .ok (.iinc 1 1, 3) := gdX11_tower_158.2.2.2.2.2.2.2.2.2.2.1
theorem dX11_tower_177 : decode cX11_tower 177 = .ok (.goto (-29), 3) := gdX11_tower_158.2.2.2.2.2.2.2.2.2.2.2.1
theorem dX11_tower_180 : decode cX11_tower 180 = .ok (.aload_n 0, 1) := gdX11_tower_158.2.2.2.2.2.2.2.2.2.2.2.2.1
theorem dX11_tower_181 : decode cX11_tower 181 = .ok (.invokevirtual 263, 3) := gdX11_tower_158.2.2.2.2.2.2.2.2.2.2.2.2.2.1
theorem dX11_tower_184 : decode cX11_tower 184 = .ok (.aload_n 0, 1) := gdX11_tower_158.2.2.2.2.2.2.2.2.2.2.2.2.2.2.1
theorem dX11_tower_185 : decode cX11_tower 185 = .ok (.getfield 223, 3) := gdX11_tower_158.2.2.2.2.2.2.2.2.2.2.2.2.2.2.2
theorem dX11_tower_188 : decode cX11_tower 188 = .ok (.ireturn, 1) := by decide +kernel
theorem gdX11_isRule_0 : (decode cX11_isRule 0 = .ok (.iload_n 1, 1)) ∧ (decode cX11_isRule 1 = .ok (.ifCond .lt 15, 3)) ∧ (decode cX11_isRule 4 = .ok (.iload_n 1, 1)) ∧ (decode cX11_isRule 5 = .ok (.aload_n 0, 1)) ∧ (decode cX11_isRule 6 = .ok (.getfield 254, 3)) ∧ (decode cX11_isRule 9 = .ok (.if_icmp .ge 7, 3)) ∧ (decode cX11_isRule 12 = .ok (.iconst 1, 1)) ∧ (decode cX11_isRule 13 = .ok (.goto 4, 3)) ∧ (decode cX11_isRule 16 = .ok (.iconst 0, 1)) ∧ (decode cX11_isRule 17 = .ok (.ireturn, 1)) := by decide +kernel
theorem dX11_isRule_0 : decode cX11_isRule 0 = .ok (.iload_n 1, 1) := gdX11_isRule_0.1
theorem dX11_isRule_1 : decode cX11_isRule 1 = .ok (.ifCond .lt 15, 3) := gdX11_isRule_0.2.1
theorem dX11_isRule_4 : decode cX11_isRule 4 = .ok (.iload_n 1, 1) := gdX11_isRule_0.2.2.1
theorem dX11_isRule_5 : decode cX11_isRule 5 = .ok (.aload_n 0, 1) := gdX11_isRule_0.2.2.2.1
theorem dX11_isRule_6 : decode cX11_isRule 6 = .ok (.getfield 254, 3) := gdX11_isRule_0.2.2.2.2.1
theorem dX11_isRule_9 : decode cX11_isRule 9 = .ok (.if_icmp .ge 7, 3) := gdX11_isRule_0.2.2.2.2.2.1
theorem dX11_isRule_12 : decode cX11_isRule 12 = .ok (.iconst 1, 1) := gdX11_isRule_0.2.2.2.2.2.2.1
theorem dX11_isRule_13 : decode cX11_isRule 13 = .ok (.goto 4, 3) := gdX11_isRule_0.2.2.2.2.2.2.2.1
theorem dX11_isRule_16 : decode cX11_isRule 16 = .ok (.iconst 0, 1) := gdX11_isRule_0.2.2.2.2.2.2.2.2.1
theorem dX11_isRule_17 : decode cX11_isRule 17 = .ok (.ireturn, 1) := gdX11_isRule_0.2.2.2.2.2.2.2.2.2
theorem gdX11_push_0 : (decode cX11_push 0 = .ok (.aload_n 0, 1)) ∧ (decode cX11_push 1 = .ok (.getfield 38, 3)) ∧ (decode cX11_push 4 = .ok (.aload_n 0, 1)) ∧ (decode cX11_push 5 = .ok (.getfield 266, 3)) ∧ (decode cX11_push 8 = .ok (.lload_n 1, 1)) ∧ (decode cX11_push 9 = .ok (.lastore, 1)) ∧ (decode cX11_push 10 = .ok (.aload_n 0, 1)) ∧ (decode cX11_push 11 = .ok (.dup, 1)) ∧ (decode cX11_push 12 = .ok (.getfield 266, 3)) ∧ (decode cX11_push 15 = .ok (.iconst 1, 1)) ∧ (decode cX11_push 16 = .ok (.iadd, 1)) ∧ (decode cX11_push 17 = .ok (.putfield 266, 3)) ∧ (decode cX11_push 20 = .ok (.return_, 1)) := by decide +kernel
theorem dX11_push_0 : decode cX11_push 0 = .ok (.aload_n 0, 1) := gdX11_push_0.1
theorem dX11_push_1 : decode cX11_push 1 = .ok (.getfield 38, 3) := gdX11_push_0.2.1
theorem dX11_push_4 : decode cX11_push 4 = .ok (.aload_n 0, 1) := gdX11_push_0.2.2.1
theorem dX11_push_5 : decode cX11_push 5 = .ok (.getfield 266, 3) := gdX11_push_0.2.2.2.1
theorem dX11_push_8 : decode cX11_push 8 = .ok (.lload_n 1, 1) := gdX11_push_0.2.2.2.2.1
theorem dX11_push_9 : decode cX11_push 9 = .ok (.lastore, 1) := gdX11_push_0.2.2.2.2.2.1
theorem dX11_push_10 : decode cX11_push 10 = .ok (.aload_n 0, 1) := gdX11_push_0.2.2.2.2.2.2.1
theorem dX11_push_11 : decode cX11_push 11 = .ok (.dup, 1) := gdX11_push_0.2.2.2.2.2.2.2.1
theorem dX11_push_12 : decode cX11_push 12 = .ok (.getfield 266, 3) := gdX11_push_0.2.2.2.2.2.2.2.2.1
theorem dX11_push_15 : decode cX11_push 15 = .ok (.iconst 1, 1) := gdX11_push_0.2.2.2.2.2.2.2.2.2.1
theorem dX11_push_16 : decode cX11_push 16 = .ok (.iadd, 1) := gdX11_push_0.2.2.2.2.2.2.2.2.2.2.1
theorem dX11_push_17 : decode cX11_push 17 = .ok (.putfield 266, 3) := gdX11_push_0.2.2.2.2.2.2.2.2.2.2.2.1
theorem dX11_push_20 : decode cX11_push 20 = .ok (.return_, 1) := gdX11_push_0.2.2.2.2.2.2.2.2.2.2.2.2
theorem gdX11_pop_0 : (decode cX11_pop 0 = .ok (.aload_n 0, 1)) ∧ (decode cX11_pop 1 = .ok (.dup, 1)) ∧ (decode cX11_pop 2 = .ok (.getfield 266, 3)) ∧ (decode cX11_pop 5 = .ok (.iconst 1, 1)) ∧ (decode cX11_pop 6 = .ok (.isub, 1)) ∧ (decode cX11_pop 7 = .ok (.putfield 266, 3)) ∧ (decode cX11_pop 10 = .ok (.aload_n 0, 1)) ∧ (decode cX11_pop 11 = .ok (.getfield 38, 3)) ∧ (decode cX11_pop 14 = .ok (.aload_n 0, 1)) ∧ (decode cX11_pop 15 = .ok (.getfield 266, 3)) ∧ (decode cX11_pop 18 = .ok (.laload, 1)) ∧ (decode cX11_pop 19 = .ok (.lreturn, 1)) := by decide +kernel
theorem dX11_pop_0 : decode cX11_pop 0 = .ok (.aload_n 0, 1) := gdX11_pop_0.1
theorem dX11_pop_1 : decode cX11_pop 1 = .ok (.dup, 1) := gdX11_pop_0.2.1
theorem dX11_pop_2 : decode cX11_pop 2 = .ok (.getfield 266, 3) := gdX11_pop_0.2.2.1
theorem dX11_pop_5 : decode cX11_pop 5 = .ok (.iconst 1, 1) := gdX11_pop_0.2.2.2.1
theorem dX11_pop_6 : decode cX11_pop 6 = .ok (.isub, 1) := gdX11_pop_0.2.2.2.2.1
theorem dX11_pop_7 : decode cX11_pop 7 = .ok (.putfield 266, 3) := gdX11_pop_0.2.2.2.2.2.1
theorem dX11_pop_10 : decode cX11_pop 10 = .ok (.aload_n 0, 1) := gdX11_pop_0.2.2.2.2.2.2.1
theorem dX11_pop_11 : decode cX11_pop 11 = .ok (.getfield 38, 3) := gdX11_pop_0.2.2.2.2.2.2.2.1
theorem dX11_pop_14 : decode cX11_pop 14 = .ok (.aload_n 0, 1) := gdX11_pop_0.2.2.2.2.2.2.2.2.1
theorem dX11_pop_15 : decode cX11_pop 15 = .ok (.getfield 266, 3) := gdX11_pop_0.2.2.2.2.2.2.2.2.2.1
theorem dX11_pop_18 : decode cX11_pop 18 = .ok (.laload, 1) := gdX11_pop_0.2.2.2.2.2.2.2.2.2.2.1
theorem dX11_pop_19 : decode cX11_pop 19 = .ok (.lreturn, 1) := gdX11_pop_0.2.2.2.2.2.2.2.2.2.2.2
theorem gdX11_one_0 : (decode cX11_one 0 = .ok (.iload_n 0, 1)) ∧ (decode cX11_one 1 = .ok (.tableswitch 149 2 12 #[59, 63, 67, 71, 85, 97, 109, 121, 133, 149, 145], 59)) ∧ (decode cX11_one 60 = .ok (.lload_n 1, 1)) ∧ (decode cX11_one 61 = .ok (.lload_n 3, 1)) ∧ (decode cX11_one 62 = .ok (.ladd, 1)) ∧ (decode cX11_one 63 = .ok (.lreturn, 1)) ∧ (decode cX11_one 64 = .ok (.lload_n 1, 1)) ∧ (decode cX11_one 65 = .ok (.lload_n 3, 1)) ∧ (decode cX11_one 66 = .ok (.lsub, 1)) ∧ (decode cX11_one 67 = .ok (.lreturn, 1)) ∧ (decode cX11_one 68 = .ok (.lload_n 1, 1)) ∧ (decode cX11_one 69 = .ok (.lload_n 3, 1)) ∧ (decode cX11_one 70 = .ok (.lmul, 1)) ∧ (decode cX11_one 71 = .ok (.lreturn, 1)) ∧ (decode cX11_one 72 = .ok (.lload_n 3, 1)) ∧ (decode cX11_one 73 = .ok (.lconst 0, 1)) := by decide +kernel
theorem dX11_one_0 : decode cX11_one 0 = .ok (.iload_n 0, 1) := gdX11_one_0.1
theorem dX11_one_1 : decode cX11_one 1 = .ok (.tableswitch 149 2 12 #[59, 63, 67, 71, 85, 97, 109, 121, 133, 149, 145], 59) := gdX11_one_0.2.1
theorem dX11_one_60 : decode cX11_one 60 = .ok (.lload_n 1, 1) := gdX11_one_0.2.2.1
theorem dX11_one_61 : decode cX11_one 61 = .ok (.lload_n 3, 1) := gdX11_one_0.2.2.2.1
theorem dX11_one_62 : decode cX11_one 62 = .ok (.ladd, 1) := gdX11_one_0.2.2.2.2.1
theorem dX11_one_63 : decode cX11_one 63 = .ok (.lreturn, 1) := gdX11_one_0.2.2.2.2.2.1
theorem dX11_one_64 : decode cX11_one 64 = .ok (.lload_n 1, 1) := gdX11_one_0.2.2.2.2.2.2.1
theorem dX11_one_65 : decode cX11_one 65 = .ok (.lload_n 3, 1) := gdX11_one_0.2.2.2.2.2.2.2.1
theorem dX11_one_66 : decode cX11_one 66 = .ok (.lsub, 1) := gdX11_one_0.2.2.2.2.2.2.2.2.1
theorem dX11_one_67 : decode cX11_one 67 = .ok (.lreturn, 1) := gdX11_one_0.2.2.2.2.2.2.2.2.2.1
theorem dX11_one_68 : decode cX11_one 68 = .ok (.lload_n 1, 1) := gdX11_one_0.2.2.2.2.2.2.2.2.2.2.1
theorem dX11_one_69 : decode cX11_one 69 = .ok (.lload_n 3, 1) := gdX11_one_0.2.2.2.2.2.2.2.2.2.2.2.1
theorem dX11_one_70 : decode cX11_one 70 = .ok (.lmul, 1) := gdX11_one_0.2.2.2.2.2.2.2.2.2.2.2.2.1
theorem dX11_one_71 : decode cX11_one 71 = .ok (.lreturn, 1) := gdX11_one_0.2.2.2.2.2.2.2.2.2.2.2.2.2.1
theorem dX11_one_72 : decode cX11_one 72 = .ok (.lload_n 3, 1) := gdX11_one_0.2.2.2.2.2.2.2.2.2.2.2.2.2.2.1
theorem dX11_one_73 : decode cX11_one 73 = .ok (.lconst 0, 1) := gdX11_one_0.2.2.2.2.2.2.2.2.2.2.2.2.2.2.2
theorem gdX11_one_74 : (decode cX11_one 74 = .ok (.lcmp, 1)) ∧ (decode cX11_one 75 = .ok (.ifCond .ne 7, 3)) ∧ (decode cX11_one 78 = .ok (.lconst 0, 1)) ∧ (decode cX11_one 79 = .ok (.goto 6, 3)) ∧ (decode cX11_one 82 = .ok (.lload_n 1, 1)) ∧ (decode cX11_one 83 = .ok (.lload_n 3, 1)) ∧ (decode cX11_one 84 = .ok (.ldiv, 1)) ∧ (decode cX11_one 85 = .ok (.lreturn, 1)) ∧ (decode cX11_one 86 = .ok (.lload_n 1, 1)) ∧ (decode cX11_one 87 = .ok (.lload_n 3, 1)) ∧ (decode cX11_one 88 = .ok (.lcmp, 1)) ∧ (decode cX11_one 89 = .ok (.ifCond .ge 7, 3)) ∧ (decode cX11_one 92 = .ok (.lconst 1, 1)) ∧ (decode cX11_one 93 = .ok (.goto 4, 3)) ∧ (decode cX11_one 96 = .ok (.lconst 0, 1)) ∧ (decode cX11_one 97 = .ok (.lreturn, 1)) := by decide +kernel
theorem dX11_one_74 : decode cX11_one 74 = .ok (.lcmp, 1) := gdX11_one_74.1
theorem dX11_one_75 : decode cX11_one 75 = .ok (.ifCond .ne 7, 3) := gdX11_one_74.2.1
theorem dX11_one_78 : decode cX11_one 78 = .ok (.lconst 0, 1) := gdX11_one_74.2.2.1
theorem dX11_one_79 : decode cX11_one 79 = .ok (.goto 6, 3) := gdX11_one_74.2.2.2.1
theorem dX11_one_82 : decode cX11_one 82 = .ok (.lload_n 1, 1) := gdX11_one_74.2.2.2.2.1
theorem dX11_one_83 : decode cX11_one 83 = .ok (.lload_n 3, 1) := gdX11_one_74.2.2.2.2.2.1
theorem dX11_one_84 : decode cX11_one 84 = .ok (.ldiv, 1) := gdX11_one_74.2.2.2.2.2.2.1
theorem dX11_one_85 : decode cX11_one 85 = .ok (.lreturn, 1) := gdX11_one_74.2.2.2.2.2.2.2.1
theorem dX11_one_86 : decode cX11_one 86 = .ok (.lload_n 1, 1) := gdX11_one_74.2.2.2.2.2.2.2.2.1
theorem dX11_one_87 : decode cX11_one 87 = .ok (.lload_n 3, 1) := gdX11_one_74.2.2.2.2.2.2.2.2.2.1
theorem dX11_one_88 : decode cX11_one 88 = .ok (.lcmp, 1) := gdX11_one_74.2.2.2.2.2.2.2.2.2.2.1
theorem dX11_one_89 : decode cX11_one 89 = .ok (.ifCond .ge 7, 3) := gdX11_one_74.2.2.2.2.2.2.2.2.2.2.2.1
theorem dX11_one_92 : decode cX11_one 92 = .ok (.lconst 1, 1) := gdX11_one_74.2.2.2.2.2.2.2.2.2.2.2.2.1
theorem dX11_one_93 : decode cX11_one 93 = .ok (.goto 4, 3) := gdX11_one_74.2.2.2.2.2.2.2.2.2.2.2.2.2.1
theorem dX11_one_96 : decode cX11_one 96 = .ok (.lconst 0, 1) := gdX11_one_74.2.2.2.2.2.2.2.2.2.2.2.2.2.2.1
theorem dX11_one_97 : decode cX11_one 97 = .ok (.lreturn, 1) := gdX11_one_74.2.2.2.2.2.2.2.2.2.2.2.2.2.2.2
theorem gdX11_one_98 : (decode cX11_one 98 = .ok (.lload_n 1, 1)) ∧ (decode cX11_one 99 = .ok (.lload_n 3, 1)) ∧ (decode cX11_one 100 = .ok (.lcmp, 1)) ∧ (decode cX11_one 101 = .ok (.ifCond .gt 7, 3)) ∧ (decode cX11_one 104 = .ok (.lconst 1, 1)) ∧ (decode cX11_one 105 = .ok (.goto 4, 3)) ∧ (decode cX11_one 108 = .ok (.lconst 0, 1)) ∧ (decode cX11_one 109 = .ok (.lreturn, 1)) ∧ (decode cX11_one 110 = .ok (.lload_n 1, 1)) ∧ (decode cX11_one 111 = .ok (.lload_n 3, 1)) ∧ (decode cX11_one 112 = .ok (.lcmp, 1)) ∧ (decode cX11_one 113 = .ok (.ifCond .ne 7, 3)) ∧ (decode cX11_one 116 = .ok (.lconst 1, 1)) ∧ (decode cX11_one 117 = .ok (.goto 4, 3)) ∧ (decode cX11_one 120 = .ok (.lconst 0, 1)) ∧ (decode cX11_one 121 = .ok (.lreturn, 1)) := by decide +kernel
theorem dX11_one_98 : decode cX11_one 98 = .ok (.lload_n 1, 1) := gdX11_one_98.1
theorem dX11_one_99 : decode cX11_one 99 = .ok (.lload_n 3, 1) := gdX11_one_98.2.1
theorem dX11_one_100 : decode cX11_one 100 = .ok (.lcmp, 1) := gdX11_one_98.2.2.1
theorem dX11_one_101 : decode cX11_one 101 = .ok (.ifCond .gt 7, 3) := gdX11_one_98.2.2.2.1
theorem dX11_one_104 : decode cX11_one 104 = .ok (.lconst 1, 1) := gdX11_one_98.2.2.2.2.1
theorem dX11_one_105 : decode cX11_one 105 = .ok (.goto 4, 3) := gdX11_one_98.2.2.2.2.2.1
theorem dX11_one_108 : decode cX11_one 108 = .ok (.lconst 0, 1) := gdX11_one_98.2.2.2.2.2.2.1
theorem dX11_one_109 : decode cX11_one 109 = .ok (.lreturn, 1) := gdX11_one_98.2.2.2.2.2.2.2.1
theorem dX11_one_110 : decode cX11_one 110 = .ok (.lload_n 1, 1) := gdX11_one_98.2.2.2.2.2.2.2.2.1
theorem dX11_one_111 : decode cX11_one 111 = .ok (.lload_n 3, 1) := gdX11_one_98.2.2.2.2.2.2.2.2.2.1
theorem dX11_one_112 : decode cX11_one 112 = .ok (.lcmp, 1) := gdX11_one_98.2.2.2.2.2.2.2.2.2.2.1
theorem dX11_one_113 : decode cX11_one 113 = .ok (.ifCond .ne 7, 3) := gdX11_one_98.2.2.2.2.2.2.2.2.2.2.2.1
theorem dX11_one_116 : decode cX11_one 116 = .ok (.lconst 1, 1) := gdX11_one_98.2.2.2.2.2.2.2.2.2.2.2.2.1
theorem dX11_one_117 : decode cX11_one 117 = .ok (.goto 4, 3) := gdX11_one_98.2.2.2.2.2.2.2.2.2.2.2.2.2.1
theorem dX11_one_120 : decode cX11_one 120 = .ok (.lconst 0, 1) := gdX11_one_98.2.2.2.2.2.2.2.2.2.2.2.2.2.2.1
theorem dX11_one_121 : decode cX11_one 121 = .ok (.lreturn, 1) := gdX11_one_98.2.2.2.2.2.2.2.2.2.2.2.2.2.2.2
theorem gdX11_one_122 : (decode cX11_one 122 = .ok (.lload_n 1, 1)) ∧ (decode cX11_one 123 = .ok (.lload_n 3, 1)) ∧ (decode cX11_one 124 = .ok (.lcmp, 1)) ∧ (decode cX11_one 125 = .ok (.ifCond .lt 7, 3)) ∧ (decode cX11_one 128 = .ok (.lconst 1, 1)) ∧ (decode cX11_one 129 = .ok (.goto 4, 3)) ∧ (decode cX11_one 132 = .ok (.lconst 0, 1)) ∧ (decode cX11_one 133 = .ok (.lreturn, 1)) ∧ (decode cX11_one 134 = .ok (.lload_n 1, 1)) ∧ (decode cX11_one 135 = .ok (.lload_n 3, 1)) ∧ (decode cX11_one 136 = .ok (.lcmp, 1)) ∧ (decode cX11_one 137 = .ok (.ifCond .le 7, 3)) ∧ (decode cX11_one 140 = .ok (.lconst 1, 1)) ∧ (decode cX11_one 141 = .ok (.goto 4, 3)) ∧ (decode cX11_one 144 = .ok (.lconst 0, 1)) ∧ (decode cX11_one 145 = .ok (.lreturn, 1)) := by decide +kernel
theorem dX11_one_122 : decode cX11_one 122 = .ok (.lload_n 1, 1) := gdX11_one_122.1
theorem dX11_one_123 : decode cX11_one 123 = .ok (.lload_n 3, 1) := gdX11_one_122.2.1
theorem dX11_one_124 : decode cX11_one 124 = .ok (.lcmp, 1) := gdX11_one_122.2.2.1
theorem dX11_one_125 : decode cX11_one 125 = .ok (.ifCond .lt 7, 3) := gdX11_one_122.2.2.2.1
theorem dX11_one_128 : decode cX11_one 128 = .ok (.lconst 1, 1) := gdX11_one_122.2.2.2.2.1
theorem dX11_one_129 : decode cX11_one 129 = .ok (.goto 4, 3) := gdX11_one_122.2.2.2.2.2.1
theorem dX11_one_132 : decode cX11_one 132 = .ok (.lconst 0, 1) := gdX11_one_122.2.2.2.2.2.2.1
theorem dX11_one_133 : decode cX11_one 133 = .ok (.lreturn, 1) := gdX11_one_122.2.2.2.2.2.2.2.1
theorem dX11_one_134 : decode cX11_one 134 = .ok (.lload_n 1, 1) := gdX11_one_122.2.2.2.2.2.2.2.2.1
theorem dX11_one_135 : decode cX11_one 135 = .ok (.lload_n 3, 1) := gdX11_one_122.2.2.2.2.2.2.2.2.2.1
theorem dX11_one_136 : decode cX11_one 136 = .ok (.lcmp, 1) := gdX11_one_122.2.2.2.2.2.2.2.2.2.2.1
theorem dX11_one_137 : decode cX11_one 137 = .ok (.ifCond .le 7, 3) := gdX11_one_122.2.2.2.2.2.2.2.2.2.2.2.1
theorem dX11_one_140 : decode cX11_one 140 = .ok (.lconst 1, 1) := gdX11_one_122.2.2.2.2.2.2.2.2.2.2.2.2.1
theorem dX11_one_141 : decode cX11_one 141 = .ok (.goto 4, 3) := gdX11_one_122.2.2.2.2.2.2.2.2.2.2.2.2.2.1
theorem dX11_one_144 : decode cX11_one 144 = .ok (.lconst 0, 1) := gdX11_one_122.2.2.2.2.2.2.2.2.2.2.2.2.2.2.1
theorem dX11_one_145 : decode cX11_one 145 = .ok (.lreturn, 1) := gdX11_one_122.2.2.2.2.2.2.2.2.2.2.2.2.2.2.2
theorem gdX11_one_146 : (decode cX11_one 146 = .ok (.lload_n 1, 1)) ∧ (decode cX11_one 147 = .ok (.lload_n 3, 1)) ∧ (decode cX11_one 148 = .ok (.land, 1)) ∧ (decode cX11_one 149 = .ok (.lreturn, 1)) ∧ (decode cX11_one 150 = .ok (.lload_n 1, 1)) ∧ (decode cX11_one 151 = .ok (.lload_n 3, 1)) ∧ (decode cX11_one 152 = .ok (.lor, 1)) ∧ (decode cX11_one 153 = .ok (.lreturn, 1)) := by decide +kernel
theorem dX11_one_146 : decode cX11_one 146 = .ok (.lload_n 1, 1) := gdX11_one_146.1
theorem dX11_one_147 : decode cX11_one 147 = .ok (.lload_n 3, 1) := gdX11_one_146.2.1
theorem dX11_one_148 : decode cX11_one 148 = .ok (.land, 1) := gdX11_one_146.2.2.1
theorem dX11_one_149 : decode cX11_one 149 = .ok (.lreturn, 1) := gdX11_one_146.2.2.2.1
theorem dX11_one_150 : decode cX11_one 150 = .ok (.lload_n 1, 1) := gdX11_one_146.2.2.2.2.1
theorem dX11_one_151 : decode cX11_one 151 = .ok (.lload_n 3, 1) := gdX11_one_146.2.2.2.2.2.1
theorem dX11_one_152 : decode cX11_one 152 = .ok (.lor, 1) := gdX11_one_146.2.2.2.2.2.2.1
theorem dX11_one_153 : decode cX11_one 153 = .ok (.lreturn, 1) := gdX11_one_146.2.2.2.2.2.2.2
theorem gdX11_reckons_0 : (decode cX11_reckons 0 = .ok (.aload_n 0, 1)) ∧ (decode cX11_reckons 1 = .ok (.iconst 0, 1)) ∧ (decode cX11_reckons 2 = .ok (.putfield 266, 3)) ∧ (decode cX11_reckons 5 = .ok (.iload_n 2, 1)) ∧ (decode cX11_reckons 6 = .ok (.istore 4, 2)) ∧ (decode cX11_reckons 8 = .ok (.iload 4, 2)) ∧ (decode cX11_reckons 10 = .ok (.iload_n 3, 1)) ∧ (decode cX11_reckons 11 = .ok (.if_icmp .ge 124, 3)) ∧ (decode cX11_reckons 14 = .ok (.aload_n 0, 1)) ∧ (decode cX11_reckons 15 = .ok (.getfield 13, 3)) ∧ (decode cX11_reckons 18 = .ok (.sipush 400, 3)) ∧ (decode cX11_reckons 21 = .ok (.iload_n 1, 1)) ∧ (decode cX11_reckons 22 = .ok (.imul, 1)) ∧ (decode cX11_reckons 23 = .ok (.iload 4, 2)) ∧ (decode cX11_reckons 25 = .ok (.iadd, 1)) ∧ (decode cX11_reckons 26 = .ok (.iaload, 1)) := by decide +kernel
theorem dX11_reckons_0 : decode cX11_reckons 0 = .ok (.aload_n 0, 1) := gdX11_reckons_0.1
theorem dX11_reckons_1 : decode cX11_reckons 1 = .ok (.iconst 0, 1) := gdX11_reckons_0.2.1
theorem dX11_reckons_2 : decode cX11_reckons 2 = .ok (.putfield 266, 3) := gdX11_reckons_0.2.2.1
theorem dX11_reckons_5 : decode cX11_reckons 5 = .ok (.iload_n 2, 1) := gdX11_reckons_0.2.2.2.1
theorem dX11_reckons_6 : decode cX11_reckons 6 = .ok (.istore 4, 2) := gdX11_reckons_0.2.2.2.2.1
theorem dX11_reckons_8 : decode cX11_reckons 8 = .ok (.iload 4, 2) := gdX11_reckons_0.2.2.2.2.2.1
theorem dX11_reckons_10 : decode cX11_reckons 10 = .ok (.iload_n 3, 1) := gdX11_reckons_0.2.2.2.2.2.2.1
theorem dX11_reckons_11 : decode cX11_reckons 11 = .ok (.if_icmp .ge 124, 3) := gdX11_reckons_0.2.2.2.2.2.2.2.1
theorem dX11_reckons_14 : decode cX11_reckons 14 = .ok (.aload_n 0, 1) := gdX11_reckons_0.2.2.2.2.2.2.2.2.1
theorem dX11_reckons_15 : decode cX11_reckons 15 = .ok (.getfield 13, 3) := gdX11_reckons_0.2.2.2.2.2.2.2.2.2.1
theorem dX11_reckons_18 : decode cX11_reckons 18 = .ok (.sipush 400, 3) := gdX11_reckons_0.2.2.2.2.2.2.2.2.2.2.1
theorem dX11_reckons_21 : decode cX11_reckons 21 = .ok (.iload_n 1, 1) := gdX11_reckons_0.2.2.2.2.2.2.2.2.2.2.2.1
theorem dX11_reckons_22 : decode cX11_reckons 22 = .ok (.imul, 1) := gdX11_reckons_0.2.2.2.2.2.2.2.2.2.2.2.2.1
theorem dX11_reckons_23 : decode cX11_reckons 23 = .ok (.iload 4, 2) := gdX11_reckons_0.2.2.2.2.2.2.2.2.2.2.2.2.2.1
theorem dX11_reckons_25 : decode cX11_reckons 25 = .ok (.iadd, 1) := gdX11_reckons_0.2.2.2.2.2.2.2.2.2.2.2.2.2.2.1
theorem dX11_reckons_26 : decode cX11_reckons 26 = .ok (.iaload, 1) := gdX11_reckons_0.2.2.2.2.2.2.2.2.2.2.2.2.2.2.2
theorem gdX11_reckons_27 : (decode cX11_reckons 27 = .ok (.bipush 15, 2)) ∧ (decode cX11_reckons 29 = .ok (.iand, 1)) ∧ (decode cX11_reckons 30 = .ok (.istore 5, 2)) ∧ (decode cX11_reckons 32 = .ok (.aload_n 0, 1)) ∧ (decode cX11_reckons 33 = .ok (.getfield 13, 3)) ∧ (decode cX11_reckons 36 = .ok (.sipush 400, 3)) ∧ (decode cX11_reckons 39 = .ok (.iload_n 1, 1)) ∧ (decode cX11_reckons 40 = .ok (.imul, 1)) ∧ (decode cX11_reckons 41 = .ok (.iload 4, 2)) ∧ (decode cX11_reckons 43 = .ok (.iadd, 1)) ∧ (decode cX11_reckons 44 = .ok (.iaload, 1)) ∧ (decode cX11_reckons 45 = .ok (.iconst 4, 1)) ∧ (decode cX11_reckons 46 = .ok (.ishr, 1)) ∧ (decode cX11_reckons 47 = .ok (.istore 6, 2)) ∧ (decode cX11_reckons 49 = .ok (.iload 5, 2)) ∧ (decode cX11_reckons 51 = .ok (.ifCond .ne 13, 3)) := by decide +kernel
theorem dX11_reckons_27 : decode cX11_reckons 27 = .ok (.bipush 15, 2) := gdX11_reckons_27.1
theorem dX11_reckons_29 : decode cX11_reckons 29 = .ok (.iand, 1) := gdX11_reckons_27.2.1
theorem dX11_reckons_30 : decode cX11_reckons 30 = .ok (.istore 5, 2) := gdX11_reckons_27.2.2.1
theorem dX11_reckons_32 : decode cX11_reckons 32 = .ok (.aload_n 0, 1) := gdX11_reckons_27.2.2.2.1
theorem dX11_reckons_33 : decode cX11_reckons 33 = .ok (.getfield 13, 3) := gdX11_reckons_27.2.2.2.2.1
theorem dX11_reckons_36 : decode cX11_reckons 36 = .ok (.sipush 400, 3) := gdX11_reckons_27.2.2.2.2.2.1
theorem dX11_reckons_39 : decode cX11_reckons 39 = .ok (.iload_n 1, 1) := gdX11_reckons_27.2.2.2.2.2.2.1
theorem dX11_reckons_40 : decode cX11_reckons 40 = .ok (.imul, 1) := gdX11_reckons_27.2.2.2.2.2.2.2.1
theorem dX11_reckons_41 : decode cX11_reckons 41 = .ok (.iload 4, 2) := gdX11_reckons_27.2.2.2.2.2.2.2.2.1
theorem dX11_reckons_43 : decode cX11_reckons 43 = .ok (.iadd, 1) := gdX11_reckons_27.2.2.2.2.2.2.2.2.2.1
theorem dX11_reckons_44 : decode cX11_reckons 44 = .ok (.iaload, 1) := gdX11_reckons_27.2.2.2.2.2.2.2.2.2.2.1
theorem dX11_reckons_45 : decode cX11_reckons 45 = .ok (.iconst 4, 1) := gdX11_reckons_27.2.2.2.2.2.2.2.2.2.2.2.1
theorem dX11_reckons_46 : decode cX11_reckons 46 = .ok (.ishr, 1) := gdX11_reckons_27.2.2.2.2.2.2.2.2.2.2.2.2.1
theorem dX11_reckons_47 : decode cX11_reckons 47 = .ok (.istore 6, 2) := gdX11_reckons_27.2.2.2.2.2.2.2.2.2.2.2.2.2.1
theorem dX11_reckons_49 : decode cX11_reckons 49 = .ok (.iload 5, 2) := gdX11_reckons_27.2.2.2.2.2.2.2.2.2.2.2.2.2.2.1
theorem dX11_reckons_51 : decode cX11_reckons 51 = .ok (.ifCond .ne 13, 3) := gdX11_reckons_27.2.2.2.2.2.2.2.2.2.2.2.2.2.2.2
theorem gdX11_reckons_54 : (decode cX11_reckons 54 = .ok (.aload_n 0, 1)) ∧ (decode cX11_reckons 55 = .ok (.iload 6, 2)) ∧ (decode cX11_reckons 57 = .ok (.i2l, 1)) ∧ (decode cX11_reckons 58 = .ok (.invokevirtual 269, 3)) ∧ (decode cX11_reckons 61 = .ok (.goto 68, 3)) ∧ (decode cX11_reckons 64 = .ok (.iload 5, 2)) ∧ (decode cX11_reckons 66 = .ok (.iconst 1, 1)) ∧ (decode cX11_reckons 67 = .ok (.if_icmp .ne 17, 3)) ∧ (decode cX11_reckons 70 = .ok (.aload_n 0, 1)) ∧ (decode cX11_reckons 71 = .ok (.aload_n 0, 1)) ∧ (decode cX11_reckons 72 = .ok (.getfield 42, 3)) ∧ (decode cX11_reckons 75 = .ok (.iload 6, 2)) ∧ (decode cX11_reckons 77 = .ok (.laload, 1)) ∧ (decode cX11_reckons 78 = .ok (.invokevirtual 269, 3)) ∧ (decode cX11_reckons 81 = .ok (.goto 48, 3)) ∧ (decode cX11_reckons 84 = .ok (.iload 5, 2)) := by decide +kernel
theorem dX11_reckons_54 : decode cX11_reckons 54 = .ok (.aload_n 0, 1) := gdX11_reckons_54.1
theorem dX11_reckons_55 : decode cX11_reckons 55 = .ok (.iload 6, 2) := gdX11_reckons_54.2.1
theorem dX11_reckons_57 : decode cX11_reckons 57 = .ok (.i2l, 1) := gdX11_reckons_54.2.2.1
theorem dX11_reckons_58 : decode cX11_reckons 58 = .ok (.invokevirtual 269, 3) := gdX11_reckons_54.2.2.2.1
theorem dX11_reckons_61 : decode cX11_reckons 61 = .ok (.goto 68, 3) := gdX11_reckons_54.2.2.2.2.1
theorem dX11_reckons_64 : decode cX11_reckons 64 = .ok (.iload 5, 2) := gdX11_reckons_54.2.2.2.2.2.1
theorem dX11_reckons_66 : decode cX11_reckons 66 = .ok (.iconst 1, 1) := gdX11_reckons_54.2.2.2.2.2.2.1
theorem dX11_reckons_67 : decode cX11_reckons 67 = .ok (.if_icmp .ne 17, 3) := gdX11_reckons_54.2.2.2.2.2.2.2.1
theorem dX11_reckons_70 : decode cX11_reckons 70 = .ok (.aload_n 0, 1) := gdX11_reckons_54.2.2.2.2.2.2.2.2.1
theorem dX11_reckons_71 : decode cX11_reckons 71 = .ok (.aload_n 0, 1) := gdX11_reckons_54.2.2.2.2.2.2.2.2.2.1
theorem dX11_reckons_72 : decode cX11_reckons 72 = .ok (.getfield 42, 3) := gdX11_reckons_54.2.2.2.2.2.2.2.2.2.2.1
theorem dX11_reckons_75 : decode cX11_reckons 75 = .ok (.iload 6, 2) := gdX11_reckons_54.2.2.2.2.2.2.2.2.2.2.2.1
theorem dX11_reckons_77 : decode cX11_reckons 77 = .ok (.laload, 1) := gdX11_reckons_54.2.2.2.2.2.2.2.2.2.2.2.2.1
theorem dX11_reckons_78 : decode cX11_reckons 78 = .ok (.invokevirtual 269, 3) := gdX11_reckons_54.2.2.2.2.2.2.2.2.2.2.2.2.2.1
theorem dX11_reckons_81 : decode cX11_reckons 81 = .ok (.goto 48, 3) := gdX11_reckons_54.2.2.2.2.2.2.2.2.2.2.2.2.2.2.1
theorem dX11_reckons_84 : decode cX11_reckons 84 = .ok (.iload 5, 2) := gdX11_reckons_54.2.2.2.2.2.2.2.2.2.2.2.2.2.2.2
theorem gdX11_reckons_86 : (decode cX11_reckons 86 = .ok (.bipush 11, 2)) ∧ (decode cX11_reckons 88 = .ok (.if_icmp .ne 16, 3)) ∧ (decode cX11_reckons 91 = .ok (.aload_n 0, 1)) ∧ (decode cX11_reckons 92 = .ok (.lconst 1, 1)) ∧ (decode cX11_reckons 93 = .ok (.aload_n 0, 1)) ∧ (decode cX11_reckons 94 = .ok (.invokevirtual 273, 3)) ∧ (decode cX11_reckons 97 = .ok (.lsub, 1)) ∧ (decode cX11_reckons 98 = .ok (.invokevirtual 269, 3)) ∧ (decode cX11_reckons 101 = .ok (.goto 28, 3)) ∧ (decode cX11_reckons 104 = .ok (.aload_n 0, 1)) ∧ (decode cX11_reckons 105 = .ok (.invokevirtual 273, 3)) ∧ (decode cX11_reckons 108 = .ok (.lstore 7, 2)) ∧ (decode cX11_reckons 110 = .ok (.aload_n 0, 1)) ∧ (decode cX11_reckons 111 = .ok (.invokevirtual 273, 3)) ∧ (decode cX11_reckons 114 = .ok (.lstore 9, 2)) ∧ (decode cX11_reckons 116 = .ok (.aload_n 0, 1)) := by decide +kernel
theorem dX11_reckons_86 : decode cX11_reckons 86 = .ok (.bipush 11, 2) := gdX11_reckons_86.1
theorem dX11_reckons_88 : decode cX11_reckons 88 = .ok (.if_icmp .ne 16, 3) := gdX11_reckons_86.2.1
theorem dX11_reckons_91 : decode cX11_reckons 91 = .ok (.aload_n 0, 1) := gdX11_reckons_86.2.2.1
theorem dX11_reckons_92 : decode cX11_reckons 92 = .ok (.lconst 1, 1) := gdX11_reckons_86.2.2.2.1
theorem dX11_reckons_93 : decode cX11_reckons 93 = .ok (.aload_n 0, 1) := gdX11_reckons_86.2.2.2.2.1
theorem dX11_reckons_94 : decode cX11_reckons 94 = .ok (.invokevirtual 273, 3) := gdX11_reckons_86.2.2.2.2.2.1
theorem dX11_reckons_97 : decode cX11_reckons 97 = .ok (.lsub, 1) := gdX11_reckons_86.2.2.2.2.2.2.1
theorem dX11_reckons_98 : decode cX11_reckons 98 = .ok (.invokevirtual 269, 3) := gdX11_reckons_86.2.2.2.2.2.2.2.1
theorem dX11_reckons_101 : decode cX11_reckons 101 = .ok (.goto 28, 3) := gdX11_reckons_86.2.2.2.2.2.2.2.2.1
theorem dX11_reckons_104 : decode cX11_reckons 104 = .ok (.aload_n 0, 1) := gdX11_reckons_86.2.2.2.2.2.2.2.2.2.1
theorem dX11_reckons_105 : decode cX11_reckons 105 = .ok (.invokevirtual 273, 3) := gdX11_reckons_86.2.2.2.2.2.2.2.2.2.2.1
theorem dX11_reckons_108 : decode cX11_reckons 108 = .ok (.lstore 7, 2) := gdX11_reckons_86.2.2.2.2.2.2.2.2.2.2.2.1
theorem dX11_reckons_110 : decode cX11_reckons 110 = .ok (.aload_n 0, 1) := gdX11_reckons_86.2.2.2.2.2.2.2.2.2.2.2.2.1
theorem dX11_reckons_111 : decode cX11_reckons 111 = .ok (.invokevirtual 273, 3) := gdX11_reckons_86.2.2.2.2.2.2.2.2.2.2.2.2.2.1
theorem dX11_reckons_114 : decode cX11_reckons 114 = .ok (.lstore 9, 2) := gdX11_reckons_86.2.2.2.2.2.2.2.2.2.2.2.2.2.2.1
theorem dX11_reckons_116 : decode cX11_reckons 116 = .ok (.aload_n 0, 1) := gdX11_reckons_86.2.2.2.2.2.2.2.2.2.2.2.2.2.2.2
theorem gdX11_reckons_117 : (decode cX11_reckons 117 = .ok (.iload 5, 2)) ∧ (decode cX11_reckons 119 = .ok (.lload 9, 2)) ∧ (decode cX11_reckons 121 = .ok (.lload 7, 2)) ∧ (decode cX11_reckons 123 = .ok (.invokestatic 277, 3)) ∧ (decode cX11_reckons 126 = .ok (.invokevirtual 269, 3)) ∧ (decode cX11_reckons 129 = .ok (.iinc 4 1, 3)) ∧ (decode cX11_reckons 132 = .ok (.goto (-124), 3)) ∧ (decode cX11_reckons 135 = .ok (.aload_n 0, 1)) ∧ (decode cX11_reckons 136 = .ok (.invokevirtual 273, 3)) ∧ (decode cX11_reckons 139 = .ok (.lreturn, 1)) := by decide +kernel
theorem dX11_reckons_117 : decode cX11_reckons 117 = .ok (.iload 5, 2) := gdX11_reckons_117.1
theorem dX11_reckons_119 : decode cX11_reckons 119 = .ok (.lload 9, 2) := gdX11_reckons_117.2.1
theorem dX11_reckons_121 : decode cX11_reckons 121 = .ok (.lload 7, 2) := gdX11_reckons_117.2.2.1
theorem dX11_reckons_123 : decode cX11_reckons 123 = .ok (.invokestatic 277, 3) := gdX11_reckons_117.2.2.2.1
theorem dX11_reckons_126 : decode cX11_reckons 126 = .ok (.invokevirtual 269, 3) := gdX11_reckons_117.2.2.2.2.1
theorem dX11_reckons_129 : decode cX11_reckons 129 = .ok (.iinc 4 1, 3) := gdX11_reckons_117.2.2.2.2.2.1
theorem dX11_reckons_132 : decode cX11_reckons 132 = .ok (.goto (-124), 3) := gdX11_reckons_117.2.2.2.2.2.2.1
theorem dX11_reckons_135 : decode cX11_reckons 135 = .ok (.aload_n 0, 1) := gdX11_reckons_117.2.2.2.2.2.2.2.1
theorem dX11_reckons_136 : decode cX11_reckons 136 = .ok (.invokevirtual 273, 3) := gdX11_reckons_117.2.2.2.2.2.2.2.2.1
theorem dX11_reckons_139 : decode cX11_reckons 139 = .ok (.lreturn, 1) := gdX11_reckons_117.2.2.2.2.2.2.2.2.2
theorem gdX11_isFloor_0 : (decode cX11_isFloor 0 = .ok (.iload_n 1, 1)) ∧ (decode cX11_isFloor 1 = .ok (.ifCond .lt 17, 3)) ∧ (decode cX11_isFloor 4 = .ok (.iload_n 1, 1)) ∧ (decode cX11_isFloor 5 = .ok (.aload_n 0, 1)) ∧ (decode cX11_isFloor 6 = .ok (.getfield 45, 3)) ∧ (decode cX11_isFloor 9 = .ok (.iconst 0, 1)) ∧ (decode cX11_isFloor 10 = .ok (.iaload, 1)) ∧ (decode cX11_isFloor 11 = .ok (.if_icmp .ge 7, 3)) ∧ (decode cX11_isFloor 14 = .ok (.iconst 1, 1)) ∧ (decode cX11_isFloor 15 = .ok (.goto 4, 3)) ∧ (decode cX11_isFloor 18 = .ok (.iconst 0, 1)) ∧ (decode cX11_isFloor 19 = .ok (.ireturn, 1)) := by decide +kernel
theorem dX11_isFloor_0 : decode cX11_isFloor 0 = .ok (.iload_n 1, 1) := gdX11_isFloor_0.1
theorem dX11_isFloor_1 : decode cX11_isFloor 1 = .ok (.ifCond .lt 17, 3) := gdX11_isFloor_0.2.1
theorem dX11_isFloor_4 : decode cX11_isFloor 4 = .ok (.iload_n 1, 1) := gdX11_isFloor_0.2.2.1
theorem dX11_isFloor_5 : decode cX11_isFloor 5 = .ok (.aload_n 0, 1) := gdX11_isFloor_0.2.2.2.1
theorem dX11_isFloor_6 : decode cX11_isFloor 6 = .ok (.getfield 45, 3) := gdX11_isFloor_0.2.2.2.2.1
theorem dX11_isFloor_9 : decode cX11_isFloor 9 = .ok (.iconst 0, 1) := gdX11_isFloor_0.2.2.2.2.2.1
theorem dX11_isFloor_10 : decode cX11_isFloor 10 = .ok (.iaload, 1) := gdX11_isFloor_0.2.2.2.2.2.2.1
theorem dX11_isFloor_11 : decode cX11_isFloor 11 = .ok (.if_icmp .ge 7, 3) := gdX11_isFloor_0.2.2.2.2.2.2.2.1
theorem dX11_isFloor_14 : decode cX11_isFloor 14 = .ok (.iconst 1, 1) := gdX11_isFloor_0.2.2.2.2.2.2.2.2.1
theorem dX11_isFloor_15 : decode cX11_isFloor 15 = .ok (.goto 4, 3) := gdX11_isFloor_0.2.2.2.2.2.2.2.2.2.1
theorem dX11_isFloor_18 : decode cX11_isFloor 18 = .ok (.iconst 0, 1) := gdX11_isFloor_0.2.2.2.2.2.2.2.2.2.2.1
theorem dX11_isFloor_19 : decode cX11_isFloor 19 = .ok (.ireturn, 1) := gdX11_isFloor_0.2.2.2.2.2.2.2.2.2.2.2
theorem gdX11_isStair_0 : (decode cX11_isStair 0 = .ok (.iload_n 1, 1)) ∧ (decode cX11_isStair 1 = .ok (.ifCond .lt 17, 3)) ∧ (decode cX11_isStair 4 = .ok (.iload_n 1, 1)) ∧ (decode cX11_isStair 5 = .ok (.aload_n 0, 1)) ∧ (decode cX11_isStair 6 = .ok (.getfield 45, 3)) ∧ (decode cX11_isStair 9 = .ok (.iconst 1, 1)) ∧ (decode cX11_isStair 10 = .ok (.iaload, 1)) ∧ (decode cX11_isStair 11 = .ok (.if_icmp .ge 7, 3)) ∧ (decode cX11_isStair 14 = .ok (.iconst 1, 1)) ∧ (decode cX11_isStair 15 = .ok (.goto 4, 3)) ∧ (decode cX11_isStair 18 = .ok (.iconst 0, 1)) ∧ (decode cX11_isStair 19 = .ok (.ireturn, 1)) := by decide +kernel
theorem dX11_isStair_0 : decode cX11_isStair 0 = .ok (.iload_n 1, 1) := gdX11_isStair_0.1
theorem dX11_isStair_1 : decode cX11_isStair 1 = .ok (.ifCond .lt 17, 3) := gdX11_isStair_0.2.1
theorem dX11_isStair_4 : decode cX11_isStair 4 = .ok (.iload_n 1, 1) := gdX11_isStair_0.2.2.1
theorem dX11_isStair_5 : decode cX11_isStair 5 = .ok (.aload_n 0, 1) := gdX11_isStair_0.2.2.2.1
theorem dX11_isStair_6 : decode cX11_isStair 6 = .ok (.getfield 45, 3) := gdX11_isStair_0.2.2.2.2.1
theorem dX11_isStair_9 : decode cX11_isStair 9 = .ok (.iconst 1, 1) := gdX11_isStair_0.2.2.2.2.2.1
theorem dX11_isStair_10 : decode cX11_isStair 10 = .ok (.iaload, 1) := gdX11_isStair_0.2.2.2.2.2.2.1
theorem dX11_isStair_11 : decode cX11_isStair 11 = .ok (.if_icmp .ge 7, 3) := gdX11_isStair_0.2.2.2.2.2.2.2.1
theorem dX11_isStair_14 : decode cX11_isStair 14 = .ok (.iconst 1, 1) := gdX11_isStair_0.2.2.2.2.2.2.2.2.1
theorem dX11_isStair_15 : decode cX11_isStair 15 = .ok (.goto 4, 3) := gdX11_isStair_0.2.2.2.2.2.2.2.2.2.1
theorem dX11_isStair_18 : decode cX11_isStair 18 = .ok (.iconst 0, 1) := gdX11_isStair_0.2.2.2.2.2.2.2.2.2.2.1
theorem dX11_isStair_19 : decode cX11_isStair 19 = .ok (.ireturn, 1) := gdX11_isStair_0.2.2.2.2.2.2.2.2.2.2.2
theorem gdX11_isThing_0 : (decode cX11_isThing 0 = .ok (.iload_n 1, 1)) ∧ (decode cX11_isThing 1 = .ok (.ifCond .lt 17, 3)) ∧ (decode cX11_isThing 4 = .ok (.iload_n 1, 1)) ∧ (decode cX11_isThing 5 = .ok (.aload_n 0, 1)) ∧ (decode cX11_isThing 6 = .ok (.getfield 45, 3)) ∧ (decode cX11_isThing 9 = .ok (.iconst 2, 1)) ∧ (decode cX11_isThing 10 = .ok (.iaload, 1)) ∧ (decode cX11_isThing 11 = .ok (.if_icmp .ge 7, 3)) ∧ (decode cX11_isThing 14 = .ok (.iconst 1, 1)) ∧ (decode cX11_isThing 15 = .ok (.goto 4, 3)) ∧ (decode cX11_isThing 18 = .ok (.iconst 0, 1)) ∧ (decode cX11_isThing 19 = .ok (.ireturn, 1)) := by decide +kernel
theorem dX11_isThing_0 : decode cX11_isThing 0 = .ok (.iload_n 1, 1) := gdX11_isThing_0.1
theorem dX11_isThing_1 : decode cX11_isThing 1 = .ok (.ifCond .lt 17, 3) := gdX11_isThing_0.2.1
theorem dX11_isThing_4 : decode cX11_isThing 4 = .ok (.iload_n 1, 1) := gdX11_isThing_0.2.2.1
theorem dX11_isThing_5 : decode cX11_isThing 5 = .ok (.aload_n 0, 1) := gdX11_isThing_0.2.2.2.1
theorem dX11_isThing_6 : decode cX11_isThing 6 = .ok (.getfield 45, 3) := gdX11_isThing_0.2.2.2.2.1
theorem dX11_isThing_9 : decode cX11_isThing 9 = .ok (.iconst 2, 1) := gdX11_isThing_0.2.2.2.2.2.1
theorem dX11_isThing_10 : decode cX11_isThing 10 = .ok (.iaload, 1) := gdX11_isThing_0.2.2.2.2.2.2.1
theorem dX11_isThing_11 : decode cX11_isThing 11 = .ok (.if_icmp .ge 7, 3) := gdX11_isThing_0.2.2.2.2.2.2.2.1
theorem dX11_isThing_14 : decode cX11_isThing 14 = .ok (.iconst 1, 1) := gdX11_isThing_0.2.2.2.2.2.2.2.2.1
theorem dX11_isThing_15 : decode cX11_isThing 15 = .ok (.goto 4, 3) := gdX11_isThing_0.2.2.2.2.2.2.2.2.2.1
theorem dX11_isThing_18 : decode cX11_isThing 18 = .ok (.iconst 0, 1) := gdX11_isThing_0.2.2.2.2.2.2.2.2.2.2.1
theorem dX11_isThing_19 : decode cX11_isThing 19 = .ok (.ireturn, 1) := gdX11_isThing_0.2.2.2.2.2.2.2.2.2.2.2
theorem gdX11_stairOf_0 : (decode cX11_stairOf 0 = .ok (.aload_n 0, 1)) ∧ (decode cX11_stairOf 1 = .ok (.getfield 45, 3)) ∧ (decode cX11_stairOf 4 = .ok (.bipush 30, 2)) ∧ (decode cX11_stairOf 6 = .ok (.iconst 5, 1)) ∧ (decode cX11_stairOf 7 = .ok (.iload_n 1, 1)) ∧ (decode cX11_stairOf 8 = .ok (.imul, 1)) ∧ (decode cX11_stairOf 9 = .ok (.iadd, 1)) ∧ (decode cX11_stairOf 10 = .ok (.iload_n 2, 1)) ∧ (decode cX11_stairOf 11 = .ok (.iadd, 1)) ∧ (decode cX11_stairOf 12 = .ok (.iaload, 1)) ∧ (decode cX11_stairOf 13 = .ok (.ireturn, 1)) := by decide +kernel
theorem dX11_stairOf_0 : decode cX11_stairOf 0 = .ok (.aload_n 0, 1) := gdX11_stairOf_0.1
theorem dX11_stairOf_1 : decode cX11_stairOf 1 = .ok (.getfield 45, 3) := gdX11_stairOf_0.2.1
theorem dX11_stairOf_4 : decode cX11_stairOf 4 = .ok (.bipush 30, 2) := gdX11_stairOf_0.2.2.1
theorem dX11_stairOf_6 : decode cX11_stairOf 6 = .ok (.iconst 5, 1) := gdX11_stairOf_0.2.2.2.1
theorem dX11_stairOf_7 : decode cX11_stairOf 7 = .ok (.iload_n 1, 1) := gdX11_stairOf_0.2.2.2.2.1
theorem dX11_stairOf_8 : decode cX11_stairOf 8 = .ok (.imul, 1) := gdX11_stairOf_0.2.2.2.2.2.1
theorem dX11_stairOf_9 : decode cX11_stairOf 9 = .ok (.iadd, 1) := gdX11_stairOf_0.2.2.2.2.2.2.1
theorem dX11_stairOf_10 : decode cX11_stairOf 10 = .ok (.iload_n 2, 1) := gdX11_stairOf_0.2.2.2.2.2.2.2.1
theorem dX11_stairOf_11 : decode cX11_stairOf 11 = .ok (.iadd, 1) := gdX11_stairOf_0.2.2.2.2.2.2.2.2.1
theorem dX11_stairOf_12 : decode cX11_stairOf 12 = .ok (.iaload, 1) := gdX11_stairOf_0.2.2.2.2.2.2.2.2.2.1
theorem dX11_stairOf_13 : decode cX11_stairOf 13 = .ok (.ireturn, 1) := gdX11_stairOf_0.2.2.2.2.2.2.2.2.2.2
theorem gdX11_thingOf_0 : (decode cX11_thingOf 0 = .ok (.aload_n 0, 1)) ∧ (decode cX11_thingOf 1 = .ok (.getfield 45, 3)) ∧ (decode cX11_thingOf 4 = .ok (.bipush 90, 2)) ∧ (decode cX11_thingOf 6 = .ok (.iconst 4, 1)) ∧ (decode cX11_thingOf 7 = .ok (.iload_n 1, 1)) ∧ (decode cX11_thingOf 8 = .ok (.imul, 1)) ∧ (decode cX11_thingOf 9 = .ok (.iadd, 1)) ∧ (decode cX11_thingOf 10 = .ok (.iload_n 2, 1)) ∧ (decode cX11_thingOf 11 = .ok (.iadd, 1)) ∧ (decode cX11_thingOf 12 = .ok (.iaload, 1)) ∧ (decode cX11_thingOf 13 = .ok (.ireturn, 1)) := by decide +kernel
theorem dX11_thingOf_0 : decode cX11_thingOf 0 = .ok (.aload_n 0, 1) := gdX11_thingOf_0.1
theorem dX11_thingOf_1 : decode cX11_thingOf 1 = .ok (.getfield 45, 3) := gdX11_thingOf_0.2.1
theorem dX11_thingOf_4 : decode cX11_thingOf 4 = .ok (.bipush 90, 2) := gdX11_thingOf_0.2.2.1
theorem dX11_thingOf_6 : decode cX11_thingOf 6 = .ok (.iconst 4, 1) := gdX11_thingOf_0.2.2.2.1
theorem dX11_thingOf_7 : decode cX11_thingOf 7 = .ok (.iload_n 1, 1) := gdX11_thingOf_0.2.2.2.2.1
theorem dX11_thingOf_8 : decode cX11_thingOf 8 = .ok (.imul, 1) := gdX11_thingOf_0.2.2.2.2.2.1
theorem dX11_thingOf_9 : decode cX11_thingOf 9 = .ok (.iadd, 1) := gdX11_thingOf_0.2.2.2.2.2.2.1
theorem dX11_thingOf_10 : decode cX11_thingOf 10 = .ok (.iload_n 2, 1) := gdX11_thingOf_0.2.2.2.2.2.2.2.1
theorem dX11_thingOf_11 : decode cX11_thingOf 11 = .ok (.iadd, 1) := gdX11_thingOf_0.2.2.2.2.2.2.2.2.1
theorem dX11_thingOf_12 : decode cX11_thingOf 12 = .ok (.iaload, 1) := gdX11_thingOf_0.2.2.2.2.2.2.2.2.2.1
theorem dX11_thingOf_13 : decode cX11_thingOf 13 = .ok (.ireturn, 1) := gdX11_thingOf_0.2.2.2.2.2.2.2.2.2.2
theorem gdX11_stands_0 : (decode cX11_stands 0 = .ok (.bipush 90, 2)) ∧ (decode cX11_stands 2 = .ok (.iconst 4, 1)) ∧ (decode cX11_stands 3 = .ok (.iload_n 1, 1)) ∧ (decode cX11_stands 4 = .ok (.imul, 1)) ∧ (decode cX11_stands 5 = .ok (.iadd, 1)) ∧ (decode cX11_stands 6 = .ok (.istore_n 3, 1)) ∧ (decode cX11_stands 7 = .ok (.aload_n 0, 1)) ∧ (decode cX11_stands 8 = .ok (.getfield 45, 3)) ∧ (decode cX11_stands 11 = .ok (.iload_n 3, 1)) ∧ (decode cX11_stands 12 = .ok (.iload_n 2, 1)) ∧ (decode cX11_stands 13 = .ok (.iastore, 1)) ∧ (decode cX11_stands 14 = .ok (.aload_n 0, 1)) ∧ (decode cX11_stands 15 = .ok (.getfield 45, 3)) ∧ (decode cX11_stands 18 = .ok (.iload_n 3, 1)) ∧ (decode cX11_stands 19 = .ok (.iconst 1, 1)) ∧ (decode cX11_stands 20 = .ok (.iadd, 1)) := by decide +kernel
theorem dX11_stands_0 : decode cX11_stands 0 = .ok (.bipush 90, 2) := gdX11_stands_0.1
theorem dX11_stands_2 : decode cX11_stands 2 = .ok (.iconst 4, 1) := gdX11_stands_0.2.1
theorem dX11_stands_3 : decode cX11_stands 3 = .ok (.iload_n 1, 1) := gdX11_stands_0.2.2.1
theorem dX11_stands_4 : decode cX11_stands 4 = .ok (.imul, 1) := gdX11_stands_0.2.2.2.1
theorem dX11_stands_5 : decode cX11_stands 5 = .ok (.iadd, 1) := gdX11_stands_0.2.2.2.2.1
theorem dX11_stands_6 : decode cX11_stands 6 = .ok (.istore_n 3, 1) := gdX11_stands_0.2.2.2.2.2.1
theorem dX11_stands_7 : decode cX11_stands 7 = .ok (.aload_n 0, 1) := gdX11_stands_0.2.2.2.2.2.2.1
theorem dX11_stands_8 : decode cX11_stands 8 = .ok (.getfield 45, 3) := gdX11_stands_0.2.2.2.2.2.2.2.1
theorem dX11_stands_11 : decode cX11_stands 11 = .ok (.iload_n 3, 1) := gdX11_stands_0.2.2.2.2.2.2.2.2.1
theorem dX11_stands_12 : decode cX11_stands 12 = .ok (.iload_n 2, 1) := gdX11_stands_0.2.2.2.2.2.2.2.2.2.1
theorem dX11_stands_13 : decode cX11_stands 13 = .ok (.iastore, 1) := gdX11_stands_0.2.2.2.2.2.2.2.2.2.2.1
theorem dX11_stands_14 : decode cX11_stands 14 = .ok (.aload_n 0, 1) := gdX11_stands_0.2.2.2.2.2.2.2.2.2.2.2.1
theorem dX11_stands_15 : decode cX11_stands 15 = .ok (.getfield 45, 3) := gdX11_stands_0.2.2.2.2.2.2.2.2.2.2.2.2.1
theorem dX11_stands_18 : decode cX11_stands 18 = .ok (.iload_n 3, 1) := gdX11_stands_0.2.2.2.2.2.2.2.2.2.2.2.2.2.1
theorem dX11_stands_19 : decode cX11_stands 19 = .ok (.iconst 1, 1) := gdX11_stands_0.2.2.2.2.2.2.2.2.2.2.2.2.2.2.1
theorem dX11_stands_20 : decode cX11_stands 20 = .ok (.iadd, 1) := gdX11_stands_0.2.2.2.2.2.2.2.2.2.2.2.2.2.2.2
theorem gdX11_stands_21 : (decode cX11_stands 21 = .ok (.iconst (-1), 1)) ∧ (decode cX11_stands 22 = .ok (.iastore, 1)) ∧ (decode cX11_stands 23 = .ok (.aload_n 0, 1)) ∧ (decode cX11_stands 24 = .ok (.getfield 45, 3)) ∧ (decode cX11_stands 27 = .ok (.iload_n 3, 1)) ∧ (decode cX11_stands 28 = .ok (.iconst 2, 1)) ∧ (decode cX11_stands 29 = .ok (.iadd, 1)) ∧ (decode cX11_stands 30 = .ok (.iconst 0, 1)) ∧ (decode cX11_stands 31 = .ok (.iastore, 1)) ∧ (decode cX11_stands 32 = .ok (.aload_n 0, 1)) ∧ (decode cX11_stands 33 = .ok (.getfield 45, 3)) ∧ (decode cX11_stands 36 = .ok (.iload_n 3, 1)) ∧ (decode cX11_stands 37 = .ok (.iconst 3, 1)) ∧ (decode cX11_stands 38 = .ok (.iadd, 1)) ∧ (decode cX11_stands 39 = .ok (.iconst (-1), 1)) ∧ (decode cX11_stands 40 = .ok (.iastore, 1)) := by decide +kernel
theorem dX11_stands_21 : decode cX11_stands 21 = .ok (.iconst (-1), 1) := gdX11_stands_21.1
theorem dX11_stands_22 : decode cX11_stands 22 = .ok (.iastore, 1) := gdX11_stands_21.2.1
theorem dX11_stands_23 : decode cX11_stands 23 = .ok (.aload_n 0, 1) := gdX11_stands_21.2.2.1
theorem dX11_stands_24 : decode cX11_stands 24 = .ok (.getfield 45, 3) := gdX11_stands_21.2.2.2.1
theorem dX11_stands_27 : decode cX11_stands 27 = .ok (.iload_n 3, 1) := gdX11_stands_21.2.2.2.2.1
theorem dX11_stands_28 : decode cX11_stands 28 = .ok (.iconst 2, 1) := gdX11_stands_21.2.2.2.2.2.1
theorem dX11_stands_29 : decode cX11_stands 29 = .ok (.iadd, 1) := gdX11_stands_21.2.2.2.2.2.2.1
theorem dX11_stands_30 : decode cX11_stands 30 = .ok (.iconst 0, 1) := gdX11_stands_21.2.2.2.2.2.2.2.1
theorem dX11_stands_31 : decode cX11_stands 31 = .ok (.iastore, 1) := gdX11_stands_21.2.2.2.2.2.2.2.2.1
theorem dX11_stands_32 : decode cX11_stands 32 = .ok (.aload_n 0, 1) := gdX11_stands_21.2.2.2.2.2.2.2.2.2.1
theorem dX11_stands_33 : decode cX11_stands 33 = .ok (.getfield 45, 3) := gdX11_stands_21.2.2.2.2.2.2.2.2.2.2.1
theorem dX11_stands_36 : decode cX11_stands 36 = .ok (.iload_n 3, 1) := gdX11_stands_21.2.2.2.2.2.2.2.2.2.2.2.1
theorem dX11_stands_37 : decode cX11_stands 37 = .ok (.iconst 3, 1) := gdX11_stands_21.2.2.2.2.2.2.2.2.2.2.2.2.1
theorem dX11_stands_38 : decode cX11_stands 38 = .ok (.iadd, 1) := gdX11_stands_21.2.2.2.2.2.2.2.2.2.2.2.2.2.1
theorem dX11_stands_39 : decode cX11_stands 39 = .ok (.iconst (-1), 1) := gdX11_stands_21.2.2.2.2.2.2.2.2.2.2.2.2.2.2.1
theorem dX11_stands_40 : decode cX11_stands 40 = .ok (.iastore, 1) := gdX11_stands_21.2.2.2.2.2.2.2.2.2.2.2.2.2.2.2
theorem dX11_stands_41 : decode cX11_stands 41 = .ok (.return_, 1) := by decide +kernel
theorem gdX11_floorParts_0 : (decode cX11_floorParts 0 = .ok (.aload_n 0, 1)) ∧ (decode cX11_floorParts 1 = .ok (.getfield 45, 3)) ∧ (decode cX11_floorParts 4 = .ok (.bipush 10, 2)) ∧ (decode cX11_floorParts 6 = .ok (.iconst 2, 1)) ∧ (decode cX11_floorParts 7 = .ok (.iload_n 1, 1)) ∧ (decode cX11_floorParts 8 = .ok (.imul, 1)) ∧ (decode cX11_floorParts 9 = .ok (.iadd, 1)) ∧ (decode cX11_floorParts 10 = .ok (.iaload, 1)) ∧ (decode cX11_floorParts 11 = .ok (.i2l, 1)) ∧ (decode cX11_floorParts 12 = .ok (.ldc2_w 281, 3)) ∧ (decode cX11_floorParts 15 = .ok (.aload_n 0, 1)) ∧ (decode cX11_floorParts 16 = .ok (.getfield 45, 3)) ∧ (decode cX11_floorParts 19 = .ok (.bipush 10, 2)) ∧ (decode cX11_floorParts 21 = .ok (.iconst 2, 1)) ∧ (decode cX11_floorParts 22 = .ok (.iload_n 1, 1)) ∧ (decode cX11_floorParts 23 = .ok (.imul, 1)) := by decide +kernel
theorem dX11_floorParts_0 : decode cX11_floorParts 0 = .ok (.aload_n 0, 1) := gdX11_floorParts_0.1
theorem dX11_floorParts_1 : decode cX11_floorParts 1 = .ok (.getfield 45, 3) := gdX11_floorParts_0.2.1
theorem dX11_floorParts_4 : decode cX11_floorParts 4 = .ok (.bipush 10, 2) := gdX11_floorParts_0.2.2.1
theorem dX11_floorParts_6 : decode cX11_floorParts 6 = .ok (.iconst 2, 1) := gdX11_floorParts_0.2.2.2.1
theorem dX11_floorParts_7 : decode cX11_floorParts 7 = .ok (.iload_n 1, 1) := gdX11_floorParts_0.2.2.2.2.1
theorem dX11_floorParts_8 : decode cX11_floorParts 8 = .ok (.imul, 1) := gdX11_floorParts_0.2.2.2.2.2.1
theorem dX11_floorParts_9 : decode cX11_floorParts 9 = .ok (.iadd, 1) := gdX11_floorParts_0.2.2.2.2.2.2.1
theorem dX11_floorParts_10 : decode cX11_floorParts 10 = .ok (.iaload, 1) := gdX11_floorParts_0.2.2.2.2.2.2.2.1
theorem dX11_floorParts_11 : decode cX11_floorParts 11 = .ok (.i2l, 1) := gdX11_floorParts_0.2.2.2.2.2.2.2.2.1
theorem dX11_floorParts_12 : decode cX11_floorParts 12 = .ok (.ldc2_w 281, 3) := gdX11_floorParts_0.2.2.2.2.2.2.2.2.2.1
theorem dX11_floorParts_15 : decode cX11_floorParts 15 = .ok (.aload_n 0, 1) := gdX11_floorParts_0.2.2.2.2.2.2.2.2.2.2.1
theorem dX11_floorParts_16 : decode cX11_floorParts 16 = .ok (.getfield 45, 3) := gdX11_floorParts_0.2.2.2.2.2.2.2.2.2.2.2.1
theorem dX11_floorParts_19 : decode cX11_floorParts 19 = .ok (.bipush 10, 2) := gdX11_floorParts_0.2.2.2.2.2.2.2.2.2.2.2.2.1
theorem dX11_floorParts_21 : decode cX11_floorParts 21 = .ok (.iconst 2, 1) := gdX11_floorParts_0.2.2.2.2.2.2.2.2.2.2.2.2.2.1
theorem dX11_floorParts_22 : decode cX11_floorParts 22 = .ok (.iload_n 1, 1) := gdX11_floorParts_0.2.2.2.2.2.2.2.2.2.2.2.2.2.2.1
theorem dX11_floorParts_23 : decode cX11_floorParts 23 = .ok (.imul, 1) := gdX11_floorParts_0.2.2.2.2.2.2.2.2.2.2.2.2.2.2.2
theorem gdX11_floorParts_24 : (decode cX11_floorParts 24 = .ok (.iadd, 1)) ∧ (decode cX11_floorParts 25 = .ok (.iconst 1, 1)) ∧ (decode cX11_floorParts 26 = .ok (.iadd, 1)) ∧ (decode cX11_floorParts 27 = .ok (.iaload, 1)) ∧ (decode cX11_floorParts 28 = .ok (.i2l, 1)) ∧ (decode cX11_floorParts 29 = .ok (.ldiv, 1)) ∧ (decode cX11_floorParts 30 = .ok (.lmul, 1)) ∧ (decode cX11_floorParts 31 = .ok (.lreturn, 1)) := by decide +kernel
theorem dX11_floorParts_24 : decode cX11_floorParts 24 = .ok (.iadd, 1) := gdX11_floorParts_24.1
theorem dX11_floorParts_25 : decode cX11_floorParts 25 = .ok (.iconst 1, 1) := gdX11_floorParts_24.2.1
theorem dX11_floorParts_26 : decode cX11_floorParts 26 = .ok (.iadd, 1) := gdX11_floorParts_24.2.2.1
theorem dX11_floorParts_27 : decode cX11_floorParts 27 = .ok (.iaload, 1) := gdX11_floorParts_24.2.2.2.1
theorem dX11_floorParts_28 : decode cX11_floorParts 28 = .ok (.i2l, 1) := gdX11_floorParts_24.2.2.2.2.1
theorem dX11_floorParts_29 : decode cX11_floorParts 29 = .ok (.ldiv, 1) := gdX11_floorParts_24.2.2.2.2.2.1
theorem dX11_floorParts_30 : decode cX11_floorParts 30 = .ok (.lmul, 1) := gdX11_floorParts_24.2.2.2.2.2.2.1
theorem dX11_floorParts_31 : decode cX11_floorParts 31 = .ok (.lreturn, 1) := gdX11_floorParts_24.2.2.2.2.2.2.2
theorem gdX11_stairParts_0 : (decode cX11_stairParts 0 = .ok (.aload_n 0, 1)) ∧ (decode cX11_stairParts 1 = .ok (.iload_n 1, 1)) ∧ (decode cX11_stairParts 2 = .ok (.iconst 3, 1)) ∧ (decode cX11_stairParts 3 = .ok (.invokevirtual 283, 3)) ∧ (decode cX11_stairParts 6 = .ok (.i2l, 1)) ∧ (decode cX11_stairParts 7 = .ok (.ldc2_w 281, 3)) ∧ (decode cX11_stairParts 10 = .ok (.aload_n 0, 1)) ∧ (decode cX11_stairParts 11 = .ok (.iload_n 1, 1)) ∧ (decode cX11_stairParts 12 = .ok (.iconst 4, 1)) ∧ (decode cX11_stairParts 13 = .ok (.invokevirtual 283, 3)) ∧ (decode cX11_stairParts 16 = .ok (.i2l, 1)) ∧ (decode cX11_stairParts 17 = .ok (.ldiv, 1)) ∧ (decode cX11_stairParts 18 = .ok (.lmul, 1)) ∧ (decode cX11_stairParts 19 = .ok (.lreturn, 1)) := by decide +kernel
theorem dX11_stairParts_0 : decode cX11_stairParts 0 = .ok (.aload_n 0, 1) := gdX11_stairParts_0.1
theorem dX11_stairParts_1 : decode cX11_stairParts 1 = .ok (.iload_n 1, 1) := gdX11_stairParts_0.2.1
theorem dX11_stairParts_2 : decode cX11_stairParts 2 = .ok (.iconst 3, 1) := gdX11_stairParts_0.2.2.1
theorem dX11_stairParts_3 : decode cX11_stairParts 3 = .ok (.invokevirtual 283, 3) := gdX11_stairParts_0.2.2.2.1
theorem dX11_stairParts_6 : decode cX11_stairParts 6 = .ok (.i2l, 1) := gdX11_stairParts_0.2.2.2.2.1
theorem dX11_stairParts_7 : decode cX11_stairParts 7 = .ok (.ldc2_w 281, 3) := gdX11_stairParts_0.2.2.2.2.2.1
theorem dX11_stairParts_10 : decode cX11_stairParts 10 = .ok (.aload_n 0, 1) := gdX11_stairParts_0.2.2.2.2.2.2.1
theorem dX11_stairParts_11 : decode cX11_stairParts 11 = .ok (.iload_n 1, 1) := gdX11_stairParts_0.2.2.2.2.2.2.2.1
theorem dX11_stairParts_12 : decode cX11_stairParts 12 = .ok (.iconst 4, 1) := gdX11_stairParts_0.2.2.2.2.2.2.2.2.1
theorem dX11_stairParts_13 : decode cX11_stairParts 13 = .ok (.invokevirtual 283, 3) := gdX11_stairParts_0.2.2.2.2.2.2.2.2.2.1
theorem dX11_stairParts_16 : decode cX11_stairParts 16 = .ok (.i2l, 1) := gdX11_stairParts_0.2.2.2.2.2.2.2.2.2.2.1
theorem dX11_stairParts_17 : decode cX11_stairParts 17 = .ok (.ldiv, 1) := gdX11_stairParts_0.2.2.2.2.2.2.2.2.2.2.2.1
theorem dX11_stairParts_18 : decode cX11_stairParts 18 = .ok (.lmul, 1) := gdX11_stairParts_0.2.2.2.2.2.2.2.2.2.2.2.2.1
theorem dX11_stairParts_19 : decode cX11_stairParts 19 = .ok (.lreturn, 1) := gdX11_stairParts_0.2.2.2.2.2.2.2.2.2.2.2.2.2
theorem gdX11_otherEnd_0 : (decode cX11_otherEnd 0 = .ok (.aload_n 0, 1)) ∧ (decode cX11_otherEnd 1 = .ok (.iload_n 1, 1)) ∧ (decode cX11_otherEnd 2 = .ok (.iconst 0, 1)) ∧ (decode cX11_otherEnd 3 = .ok (.invokevirtual 283, 3)) ∧ (decode cX11_otherEnd 6 = .ok (.iload_n 2, 1)) ∧ (decode cX11_otherEnd 7 = .ok (.if_icmp .ne 12, 3)) ∧ (decode cX11_otherEnd 10 = .ok (.aload_n 0, 1)) ∧ (decode cX11_otherEnd 11 = .ok (.iload_n 1, 1)) ∧ (decode cX11_otherEnd 12 = .ok (.iconst 1, 1)) ∧ (decode cX11_otherEnd 13 = .ok (.invokevirtual 283, 3)) ∧ (decode cX11_otherEnd 16 = .ok (.goto 23, 3)) ∧ (decode cX11_otherEnd 19 = .ok (.aload_n 0, 1)) ∧ (decode cX11_otherEnd 20 = .ok (.iload_n 1, 1)) ∧ (decode cX11_otherEnd 21 = .ok (.iconst 1, 1)) ∧ (decode cX11_otherEnd 22 = .ok (.invokevirtual 283, 3)) ∧ (decode cX11_otherEnd 25 = .ok (.iload_n 2, 1)) := by decide +kernel
theorem dX11_otherEnd_0 : decode cX11_otherEnd 0 = .ok (.aload_n 0, 1) := gdX11_otherEnd_0.1
theorem dX11_otherEnd_1 : decode cX11_otherEnd 1 = .ok (.iload_n 1, 1) := gdX11_otherEnd_0.2.1
theorem dX11_otherEnd_2 : decode cX11_otherEnd 2 = .ok (.iconst 0, 1) := gdX11_otherEnd_0.2.2.1
theorem dX11_otherEnd_3 : decode cX11_otherEnd 3 = .ok (.invokevirtual 283, 3) := gdX11_otherEnd_0.2.2.2.1
theorem dX11_otherEnd_6 : decode cX11_otherEnd 6 = .ok (.iload_n 2, 1) := gdX11_otherEnd_0.2.2.2.2.1
theorem dX11_otherEnd_7 : decode cX11_otherEnd 7 = .ok (.if_icmp .ne 12, 3) := gdX11_otherEnd_0.2.2.2.2.2.1
theorem dX11_otherEnd_10 : decode cX11_otherEnd 10 = .ok (.aload_n 0, 1) := gdX11_otherEnd_0.2.2.2.2.2.2.1
theorem dX11_otherEnd_11 : decode cX11_otherEnd 11 = .ok (.iload_n 1, 1) := gdX11_otherEnd_0.2.2.2.2.2.2.2.1
theorem dX11_otherEnd_12 : decode cX11_otherEnd 12 = .ok (.iconst 1, 1) := gdX11_otherEnd_0.2.2.2.2.2.2.2.2.1
theorem dX11_otherEnd_13 : decode cX11_otherEnd 13 = .ok (.invokevirtual 283, 3) := gdX11_otherEnd_0.2.2.2.2.2.2.2.2.2.1
theorem dX11_otherEnd_16 : decode cX11_otherEnd 16 = .ok (.goto 23, 3) := gdX11_otherEnd_0.2.2.2.2.2.2.2.2.2.2.1
theorem dX11_otherEnd_19 : decode cX11_otherEnd 19 = .ok (.aload_n 0, 1) := gdX11_otherEnd_0.2.2.2.2.2.2.2.2.2.2.2.1
theorem dX11_otherEnd_20 : decode cX11_otherEnd 20 = .ok (.iload_n 1, 1) := gdX11_otherEnd_0.2.2.2.2.2.2.2.2.2.2.2.2.1
theorem dX11_otherEnd_21 : decode cX11_otherEnd 21 = .ok (.iconst 1, 1) := gdX11_otherEnd_0.2.2.2.2.2.2.2.2.2.2.2.2.2.1
theorem dX11_otherEnd_22 : decode cX11_otherEnd 22 = .ok (.invokevirtual 283, 3) := gdX11_otherEnd_0.2.2.2.2.2.2.2.2.2.2.2.2.2.2.1
theorem dX11_otherEnd_25 : decode cX11_otherEnd 25 = .ok (.iload_n 2, 1) := gdX11_otherEnd_0.2.2.2.2.2.2.2.2.2.2.2.2.2.2.2
theorem gdX11_otherEnd_26 : (decode cX11_otherEnd 26 = .ok (.if_icmp .ne 12, 3)) ∧ (decode cX11_otherEnd 29 = .ok (.aload_n 0, 1)) ∧ (decode cX11_otherEnd 30 = .ok (.iload_n 1, 1)) ∧ (decode cX11_otherEnd 31 = .ok (.iconst 0, 1)) ∧ (decode cX11_otherEnd 32 = .ok (.invokevirtual 283, 3)) ∧ (decode cX11_otherEnd 35 = .ok (.goto 4, 3)) ∧ (decode cX11_otherEnd 38 = .ok (.iconst (-1), 1)) ∧ (decode cX11_otherEnd 39 = .ok (.ireturn, 1)) := by decide +kernel
theorem dX11_otherEnd_26 : decode cX11_otherEnd 26 = .ok (.if_icmp .ne 12, 3) := gdX11_otherEnd_26.1
theorem dX11_otherEnd_29 : decode cX11_otherEnd 29 = .ok (.aload_n 0, 1) := gdX11_otherEnd_26.2.1
theorem dX11_otherEnd_30 : decode cX11_otherEnd 30 = .ok (.iload_n 1, 1) := gdX11_otherEnd_26.2.2.1
theorem dX11_otherEnd_31 : decode cX11_otherEnd 31 = .ok (.iconst 0, 1) := gdX11_otherEnd_26.2.2.2.1
theorem dX11_otherEnd_32 : decode cX11_otherEnd 32 = .ok (.invokevirtual 283, 3) := gdX11_otherEnd_26.2.2.2.2.1
theorem dX11_otherEnd_35 : decode cX11_otherEnd 35 = .ok (.goto 4, 3) := gdX11_otherEnd_26.2.2.2.2.2.1
theorem dX11_otherEnd_38 : decode cX11_otherEnd 38 = .ok (.iconst (-1), 1) := gdX11_otherEnd_26.2.2.2.2.2.2.1
theorem dX11_otherEnd_39 : decode cX11_otherEnd 39 = .ok (.ireturn, 1) := gdX11_otherEnd_26.2.2.2.2.2.2.2
theorem gdX11_spreads_0 : (decode cX11_spreads 0 = .ok (.iconst 0, 1)) ∧ (decode cX11_spreads 1 = .ok (.istore_n 1, 1)) ∧ (decode cX11_spreads 2 = .ok (.iload_n 1, 1)) ∧ (decode cX11_spreads 3 = .ok (.bipush 10, 2)) ∧ (decode cX11_spreads 5 = .ok (.if_icmp .ge 46, 3)) ∧ (decode cX11_spreads 8 = .ok (.iconst 0, 1)) ∧ (decode cX11_spreads 9 = .ok (.istore_n 2, 1)) ∧ (decode cX11_spreads 10 = .ok (.iload_n 2, 1)) ∧ (decode cX11_spreads 11 = .ok (.bipush 10, 2)) ∧ (decode cX11_spreads 13 = .ok (.if_icmp .ge 32, 3)) ∧ (decode cX11_spreads 16 = .ok (.aload_n 0, 1)) ∧ (decode cX11_spreads 17 = .ok (.getfield 57, 3)) ∧ (decode cX11_spreads 20 = .ok (.bipush 10, 2)) ∧ (decode cX11_spreads 22 = .ok (.iload_n 1, 1)) ∧ (decode cX11_spreads 23 = .ok (.imul, 1)) ∧ (decode cX11_spreads 24 = .ok (.iload_n 2, 1)) := by decide +kernel
theorem dX11_spreads_0 : decode cX11_spreads 0 = .ok (.iconst 0, 1) := gdX11_spreads_0.1
theorem dX11_spreads_1 : decode cX11_spreads 1 = .ok (.istore_n 1, 1) := gdX11_spreads_0.2.1
theorem dX11_spreads_2 : decode cX11_spreads 2 = .ok (.iload_n 1, 1) := gdX11_spreads_0.2.2.1
theorem dX11_spreads_3 : decode cX11_spreads 3 = .ok (.bipush 10, 2) := gdX11_spreads_0.2.2.2.1
theorem dX11_spreads_5 : decode cX11_spreads 5 = .ok (.if_icmp .ge 46, 3) := gdX11_spreads_0.2.2.2.2.1
theorem dX11_spreads_8 : decode cX11_spreads 8 = .ok (.iconst 0, 1) := gdX11_spreads_0.2.2.2.2.2.1
theorem dX11_spreads_9 : decode cX11_spreads 9 = .ok (.istore_n 2, 1) := gdX11_spreads_0.2.2.2.2.2.2.1
theorem dX11_spreads_10 : decode cX11_spreads 10 = .ok (.iload_n 2, 1) := gdX11_spreads_0.2.2.2.2.2.2.2.1
theorem dX11_spreads_11 : decode cX11_spreads 11 = .ok (.bipush 10, 2) := gdX11_spreads_0.2.2.2.2.2.2.2.2.1
theorem dX11_spreads_13 : decode cX11_spreads 13 = .ok (.if_icmp .ge 32, 3) := gdX11_spreads_0.2.2.2.2.2.2.2.2.2.1
theorem dX11_spreads_16 : decode cX11_spreads 16 = .ok (.aload_n 0, 1) := gdX11_spreads_0.2.2.2.2.2.2.2.2.2.2.1
theorem dX11_spreads_17 : decode cX11_spreads 17 = .ok (.getfield 57, 3) := gdX11_spreads_0.2.2.2.2.2.2.2.2.2.2.2.1
theorem dX11_spreads_20 : decode cX11_spreads 20 = .ok (.bipush 10, 2) := gdX11_spreads_0.2.2.2.2.2.2.2.2.2.2.2.2.1
theorem dX11_spreads_22 : decode cX11_spreads 22 = .ok (.iload_n 1, 1) := gdX11_spreads_0.2.2.2.2.2.2.2.2.2.2.2.2.2.1
theorem dX11_spreads_23 : decode cX11_spreads 23 = .ok (.imul, 1) := gdX11_spreads_0.2.2.2.2.2.2.2.2.2.2.2.2.2.2.1
theorem dX11_spreads_24 : decode cX11_spreads 24 = .ok (.iload_n 2, 1) := gdX11_spreads_0.2.2.2.2.2.2.2.2.2.2.2.2.2.2.2
theorem gdX11_spreads_25 : (decode cX11_spreads 25 = .ok (.iadd, 1)) ∧ (decode cX11_spreads 26 = .ok (.iload_n 1, 1)) ∧ (decode cX11_spreads 27 = .ok (.iload_n 2, 1)) ∧ (decode cX11_spreads 28 = .ok (.if_icmp .ne 7, 3)) ∧ (decode cX11_spreads 31 = .ok (.lconst 0, 1)) ∧ (decode cX11_spreads 32 = .ok (.goto 6, 3)) ∧ (decode cX11_spreads 35 = .ok (.ldc2_w 287, 3)) ∧ (decode cX11_spreads 38 = .ok (.lastore, 1)) ∧ (decode cX11_spreads 39 = .ok (.iinc 2 1, 3)) ∧ (decode cX11_spreads 42 = .ok (.goto (-32), 3)) ∧ (decode cX11_spreads 45 = .ok (.iinc 1 1, 3)) ∧ (decode cX11_spreads 48 = .ok (.goto (-46), 3)) ∧ (decode cX11_spreads 51 = .ok (.iconst 0, 1)) ∧ (decode cX11_spreads 52 = .ok (.istore_n 1, 1)) ∧ (decode cX11_spreads 53 = .ok (.iload_n 1, 1)) ∧ (decode cX11_spreads 54 = .ok (.aload_n 0, 1)) := by decide +kernel
theorem dX11_spreads_25 : decode cX11_spreads 25 = .ok (.iadd, 1) := gdX11_spreads_25.1
theorem dX11_spreads_26 : decode cX11_spreads 26 = .ok (.iload_n 1, 1) := gdX11_spreads_25.2.1
theorem dX11_spreads_27 : decode cX11_spreads 27 = .ok (.iload_n 2, 1) := gdX11_spreads_25.2.2.1
theorem dX11_spreads_28 : decode cX11_spreads 28 = .ok (.if_icmp .ne 7, 3) := gdX11_spreads_25.2.2.2.1
theorem dX11_spreads_31 : decode cX11_spreads 31 = .ok (.lconst 0, 1) := gdX11_spreads_25.2.2.2.2.1
theorem dX11_spreads_32 : decode cX11_spreads 32 = .ok (.goto 6, 3) := gdX11_spreads_25.2.2.2.2.2.1
theorem dX11_spreads_35 : decode cX11_spreads 35 = .ok (.ldc2_w 287, 3) := gdX11_spreads_25.2.2.2.2.2.2.1
theorem dX11_spreads_38 : decode cX11_spreads 38 = .ok (.lastore, 1) := gdX11_spreads_25.2.2.2.2.2.2.2.1
theorem dX11_spreads_39 : decode cX11_spreads 39 = .ok (.iinc 2 1, 3) := gdX11_spreads_25.2.2.2.2.2.2.2.2.1
theorem dX11_spreads_42 : decode cX11_spreads 42 = .ok (.goto (-32), 3) := gdX11_spreads_25.2.2.2.2.2.2.2.2.2.1
theorem dX11_spreads_45 : decode cX11_spreads 45 = .ok (.iinc 1 1, 3) := gdX11_spreads_25.2.2.2.2.2.2.2.2.2.2.1
theorem dX11_spreads_48 : decode cX11_spreads 48 = .ok (.goto (-46), 3) := gdX11_spreads_25.2.2.2.2.2.2.2.2.2.2.2.1
theorem dX11_spreads_51 : decode cX11_spreads 51 = .ok (.iconst 0, 1) := gdX11_spreads_25.2.2.2.2.2.2.2.2.2.2.2.2.1
theorem dX11_spreads_52 : decode cX11_spreads 52 = .ok (.istore_n 1, 1) := gdX11_spreads_25.2.2.2.2.2.2.2.2.2.2.2.2.2.1
theorem dX11_spreads_53 : decode cX11_spreads 53 = .ok (.iload_n 1, 1) := gdX11_spreads_25.2.2.2.2.2.2.2.2.2.2.2.2.2.2.1
theorem dX11_spreads_54 : decode cX11_spreads 54 = .ok (.aload_n 0, 1) := gdX11_spreads_25.2.2.2.2.2.2.2.2.2.2.2.2.2.2.2
theorem gdX11_spreads_55 : (decode cX11_spreads 55 = .ok (.getfield 45, 3)) ∧ (decode cX11_spreads 58 = .ok (.iconst 1, 1)) ∧ (decode cX11_spreads 59 = .ok (.iaload, 1)) ∧ (decode cX11_spreads 60 = .ok (.if_icmp .ge 84, 3)) ∧ (decode cX11_spreads 63 = .ok (.aload_n 0, 1)) ∧ (decode cX11_spreads 64 = .ok (.iload_n 1, 1)) ∧ (decode cX11_spreads 65 = .ok (.iconst 0, 1)) ∧ (decode cX11_spreads 66 = .ok (.invokevirtual 283, 3)) ∧ (decode cX11_spreads 69 = .ok (.istore_n 2, 1)) ∧ (decode cX11_spreads 70 = .ok (.aload_n 0, 1)) ∧ (decode cX11_spreads 71 = .ok (.iload_n 1, 1)) ∧ (decode cX11_spreads 72 = .ok (.iconst 1, 1)) ∧ (decode cX11_spreads 73 = .ok (.invokevirtual 283, 3)) ∧ (decode cX11_spreads 76 = .ok (.istore_n 3, 1)) ∧ (decode cX11_spreads 77 = .ok (.aload_n 0, 1)) ∧ (decode cX11_spreads 78 = .ok (.iload_n 1, 1)) := by decide +kernel
theorem dX11_spreads_55 : decode cX11_spreads 55 = .ok (.getfield 45, 3) := gdX11_spreads_55.1
theorem dX11_spreads_58 : decode cX11_spreads 58 = .ok (.iconst 1, 1) := gdX11_spreads_55.2.1
theorem dX11_spreads_59 : decode cX11_spreads 59 = .ok (.iaload, 1) := gdX11_spreads_55.2.2.1
theorem dX11_spreads_60 : decode cX11_spreads 60 = .ok (.if_icmp .ge 84, 3) := gdX11_spreads_55.2.2.2.1
theorem dX11_spreads_63 : decode cX11_spreads 63 = .ok (.aload_n 0, 1) := gdX11_spreads_55.2.2.2.2.1
theorem dX11_spreads_64 : decode cX11_spreads 64 = .ok (.iload_n 1, 1) := gdX11_spreads_55.2.2.2.2.2.1
theorem dX11_spreads_65 : decode cX11_spreads 65 = .ok (.iconst 0, 1) := gdX11_spreads_55.2.2.2.2.2.2.1
theorem dX11_spreads_66 : decode cX11_spreads 66 = .ok (.invokevirtual 283, 3) := gdX11_spreads_55.2.2.2.2.2.2.2.1
theorem dX11_spreads_69 : decode cX11_spreads 69 = .ok (.istore_n 2, 1) := gdX11_spreads_55.2.2.2.2.2.2.2.2.1
theorem dX11_spreads_70 : decode cX11_spreads 70 = .ok (.aload_n 0, 1) := gdX11_spreads_55.2.2.2.2.2.2.2.2.2.1
theorem dX11_spreads_71 : decode cX11_spreads 71 = .ok (.iload_n 1, 1) := gdX11_spreads_55.2.2.2.2.2.2.2.2.2.2.1
theorem dX11_spreads_72 : decode cX11_spreads 72 = .ok (.iconst 1, 1) := gdX11_spreads_55.2.2.2.2.2.2.2.2.2.2.2.1
theorem dX11_spreads_73 : decode cX11_spreads 73 = .ok (.invokevirtual 283, 3) := gdX11_spreads_55.2.2.2.2.2.2.2.2.2.2.2.2.1
theorem dX11_spreads_76 : decode cX11_spreads 76 = .ok (.istore_n 3, 1) := gdX11_spreads_55.2.2.2.2.2.2.2.2.2.2.2.2.2.1
theorem dX11_spreads_77 : decode cX11_spreads 77 = .ok (.aload_n 0, 1) := gdX11_spreads_55.2.2.2.2.2.2.2.2.2.2.2.2.2.2.1
theorem dX11_spreads_78 : decode cX11_spreads 78 = .ok (.iload_n 1, 1) := gdX11_spreads_55.2.2.2.2.2.2.2.2.2.2.2.2.2.2.2
theorem gdX11_spreads_79 : (decode cX11_spreads 79 = .ok (.iconst 2, 1)) ∧ (decode cX11_spreads 80 = .ok (.invokevirtual 283, 3)) ∧ (decode cX11_spreads 83 = .ok (.i2l, 1)) ∧ (decode cX11_spreads 84 = .ok (.aload_n 0, 1)) ∧ (decode cX11_spreads 85 = .ok (.getfield 57, 3)) ∧ (decode cX11_spreads 88 = .ok (.bipush 10, 2)) ∧ (decode cX11_spreads 90 = .ok (.iload_n 2, 1)) ∧ (decode cX11_spreads 91 = .ok (.imul, 1)) ∧ (decode cX11_spreads 92 = .ok (.iload_n 3, 1)) ∧ (decode cX11_spreads 93 = .ok (.iadd, 1)) ∧ (decode cX11_spreads 94 = .ok (.laload, 1)) ∧ (decode cX11_spreads 95 = .ok (.lcmp, 1)) ∧ (decode cX11_spreads 96 = .ok (.ifCond .lt 6, 3)) ∧ (decode cX11_spreads 99 = .ok (.goto 39, 3)) ∧ (decode cX11_spreads 102 = .ok (.aload_n 0, 1)) ∧ (decode cX11_spreads 103 = .ok (.getfield 57, 3)) := by decide +kernel
theorem dX11_spreads_79 : decode cX11_spreads 79 = .ok (.iconst 2, 1) := gdX11_spreads_79.1
theorem dX11_spreads_80 : decode cX11_spreads 80 = .ok (.invokevirtual 283, 3) := gdX11_spreads_79.2.1
theorem dX11_spreads_83 : decode cX11_spreads 83 = .ok (.i2l, 1) := gdX11_spreads_79.2.2.1
theorem dX11_spreads_84 : decode cX11_spreads 84 = .ok (.aload_n 0, 1) := gdX11_spreads_79.2.2.2.1
theorem dX11_spreads_85 : decode cX11_spreads 85 = .ok (.getfield 57, 3) := gdX11_spreads_79.2.2.2.2.1
theorem dX11_spreads_88 : decode cX11_spreads 88 = .ok (.bipush 10, 2) := gdX11_spreads_79.2.2.2.2.2.1
theorem dX11_spreads_90 : decode cX11_spreads 90 = .ok (.iload_n 2, 1) := gdX11_spreads_79.2.2.2.2.2.2.1
theorem dX11_spreads_91 : decode cX11_spreads 91 = .ok (.imul, 1) := gdX11_spreads_79.2.2.2.2.2.2.2.1
theorem dX11_spreads_92 : decode cX11_spreads 92 = .ok (.iload_n 3, 1) := gdX11_spreads_79.2.2.2.2.2.2.2.2.1
theorem dX11_spreads_93 : decode cX11_spreads 93 = .ok (.iadd, 1) := gdX11_spreads_79.2.2.2.2.2.2.2.2.2.1
theorem dX11_spreads_94 : decode cX11_spreads 94 = .ok (.laload, 1) := gdX11_spreads_79.2.2.2.2.2.2.2.2.2.2.1
theorem dX11_spreads_95 : decode cX11_spreads 95 = .ok (.lcmp, 1) := gdX11_spreads_79.2.2.2.2.2.2.2.2.2.2.2.1
theorem dX11_spreads_96 : decode cX11_spreads 96 = .ok (.ifCond .lt 6, 3) := gdX11_spreads_79.2.2.2.2.2.2.2.2.2.2.2.2.1
theorem dX11_spreads_99 : decode cX11_spreads 99 = .ok (.goto 39, 3) := gdX11_spreads_79.2.2.2.2.2.2.2.2.2.2.2.2.2.1
theorem dX11_spreads_102 : decode cX11_spreads 102 = .ok (.aload_n 0, 1) := gdX11_spreads_79.2.2.2.2.2.2.2.2.2.2.2.2.2.2.1
theorem dX11_spreads_103 : decode cX11_spreads 103 = .ok (.getfield 57, 3) := gdX11_spreads_79.2.2.2.2.2.2.2.2.2.2.2.2.2.2.2
theorem gdX11_spreads_106 : (decode cX11_spreads 106 = .ok (.bipush 10, 2)) ∧ (decode cX11_spreads 108 = .ok (.iload_n 2, 1)) ∧ (decode cX11_spreads 109 = .ok (.imul, 1)) ∧ (decode cX11_spreads 110 = .ok (.iload_n 3, 1)) ∧ (decode cX11_spreads 111 = .ok (.iadd, 1)) ∧ (decode cX11_spreads 112 = .ok (.aload_n 0, 1)) ∧ (decode cX11_spreads 113 = .ok (.iload_n 1, 1)) ∧ (decode cX11_spreads 114 = .ok (.iconst 2, 1)) ∧ (decode cX11_spreads 115 = .ok (.invokevirtual 283, 3)) ∧ (decode cX11_spreads 118 = .ok (.i2l, 1)) ∧ (decode cX11_spreads 119 = .ok (.lastore, 1)) ∧ (decode cX11_spreads 120 = .ok (.aload_n 0, 1)) ∧ (decode cX11_spreads 121 = .ok (.getfield 57, 3)) ∧ (decode cX11_spreads 124 = .ok (.bipush 10, 2)) ∧ (decode cX11_spreads 126 = .ok (.iload_n 3, 1)) ∧ (decode cX11_spreads 127 = .ok (.imul, 1)) := by decide +kernel
theorem dX11_spreads_106 : decode cX11_spreads 106 = .ok (.bipush 10, 2) := gdX11_spreads_106.1
theorem dX11_spreads_108 : decode cX11_spreads 108 = .ok (.iload_n 2, 1) := gdX11_spreads_106.2.1
theorem dX11_spreads_109 : decode cX11_spreads 109 = .ok (.imul, 1) := gdX11_spreads_106.2.2.1
theorem dX11_spreads_110 : decode cX11_spreads 110 = .ok (.iload_n 3, 1) := gdX11_spreads_106.2.2.2.1
theorem dX11_spreads_111 : decode cX11_spreads 111 = .ok (.iadd, 1) := gdX11_spreads_106.2.2.2.2.1
theorem dX11_spreads_112 : decode cX11_spreads 112 = .ok (.aload_n 0, 1) := gdX11_spreads_106.2.2.2.2.2.1
theorem dX11_spreads_113 : decode cX11_spreads 113 = .ok (.iload_n 1, 1) := gdX11_spreads_106.2.2.2.2.2.2.1
theorem dX11_spreads_114 : decode cX11_spreads 114 = .ok (.iconst 2, 1) := gdX11_spreads_106.2.2.2.2.2.2.2.1
theorem dX11_spreads_115 : decode cX11_spreads 115 = .ok (.invokevirtual 283, 3) := gdX11_spreads_106.2.2.2.2.2.2.2.2.1
theorem dX11_spreads_118 : decode cX11_spreads 118 = .ok (.i2l, 1) := gdX11_spreads_106.2.2.2.2.2.2.2.2.2.1
theorem dX11_spreads_119 : decode cX11_spreads 119 = .ok (.lastore, 1) := gdX11_spreads_106.2.2.2.2.2.2.2.2.2.2.1
theorem dX11_spreads_120 : decode cX11_spreads 120 = .ok (.aload_n 0, 1) := gdX11_spreads_106.2.2.2.2.2.2.2.2.2.2.2.1
theorem dX11_spreads_121 : decode cX11_spreads 121 = .ok (.getfield 57, 3) := gdX11_spreads_106.2.2.2.2.2.2.2.2.2.2.2.2.1
theorem dX11_spreads_124 : decode cX11_spreads 124 = .ok (.bipush 10, 2) := gdX11_spreads_106.2.2.2.2.2.2.2.2.2.2.2.2.2.1
theorem dX11_spreads_126 : decode cX11_spreads 126 = .ok (.iload_n 3, 1) := gdX11_spreads_106.2.2.2.2.2.2.2.2.2.2.2.2.2.2.1
theorem dX11_spreads_127 : decode cX11_spreads 127 = .ok (.imul, 1) := gdX11_spreads_106.2.2.2.2.2.2.2.2.2.2.2.2.2.2.2
theorem gdX11_spreads_128 : (decode cX11_spreads 128 = .ok (.iload_n 2, 1)) ∧ (decode cX11_spreads 129 = .ok (.iadd, 1)) ∧ (decode cX11_spreads 130 = .ok (.aload_n 0, 1)) ∧ (decode cX11_spreads 131 = .ok (.iload_n 1, 1)) ∧ (decode cX11_spreads 132 = .ok (.iconst 2, 1)) ∧ (decode cX11_spreads 133 = .ok (.invokevirtual 283, 3)) ∧ (decode cX11_spreads 136 = .ok (.i2l, 1)) ∧ (decode cX11_spreads 137 = .ok (.lastore, 1)) ∧ (decode cX11_spreads 138 = .ok (.iinc 1 1, 3)) ∧ (decode cX11_spreads 141 = .ok (.goto (-88), 3)) ∧ (decode cX11_spreads 144 = .ok (.iconst 0, 1)) ∧ (decode cX11_spreads 145 = .ok (.istore_n 1, 1)) ∧ (decode cX11_spreads 146 = .ok (.iload_n 1, 1)) ∧ (decode cX11_spreads 147 = .ok (.bipush 10, 2)) ∧ (decode cX11_spreads 149 = .ok (.if_icmp .ge 109, 3)) ∧ (decode cX11_spreads 152 = .ok (.iconst 0, 1)) := by decide +kernel
theorem dX11_spreads_128 : decode cX11_spreads 128 = .ok (.iload_n 2, 1) := gdX11_spreads_128.1
theorem dX11_spreads_129 : decode cX11_spreads 129 = .ok (.iadd, 1) := gdX11_spreads_128.2.1
theorem dX11_spreads_130 : decode cX11_spreads 130 = .ok (.aload_n 0, 1) := gdX11_spreads_128.2.2.1
theorem dX11_spreads_131 : decode cX11_spreads 131 = .ok (.iload_n 1, 1) := gdX11_spreads_128.2.2.2.1
theorem dX11_spreads_132 : decode cX11_spreads 132 = .ok (.iconst 2, 1) := gdX11_spreads_128.2.2.2.2.1
theorem dX11_spreads_133 : decode cX11_spreads 133 = .ok (.invokevirtual 283, 3) := gdX11_spreads_128.2.2.2.2.2.1
theorem dX11_spreads_136 : decode cX11_spreads 136 = .ok (.i2l, 1) := gdX11_spreads_128.2.2.2.2.2.2.1
theorem dX11_spreads_137 : decode cX11_spreads 137 = .ok (.lastore, 1) := gdX11_spreads_128.2.2.2.2.2.2.2.1
theorem dX11_spreads_138 : decode cX11_spreads 138 = .ok (.iinc 1 1, 3) := gdX11_spreads_128.2.2.2.2.2.2.2.2.1
theorem dX11_spreads_141 : decode cX11_spreads 141 = .ok (.goto (-88), 3) := gdX11_spreads_128.2.2.2.2.2.2.2.2.2.1
theorem dX11_spreads_144 : decode cX11_spreads 144 = .ok (.iconst 0, 1) := gdX11_spreads_128.2.2.2.2.2.2.2.2.2.2.1
theorem dX11_spreads_145 : decode cX11_spreads 145 = .ok (.istore_n 1, 1) := gdX11_spreads_128.2.2.2.2.2.2.2.2.2.2.2.1
theorem dX11_spreads_146 : decode cX11_spreads 146 = .ok (.iload_n 1, 1) := gdX11_spreads_128.2.2.2.2.2.2.2.2.2.2.2.2.1
theorem dX11_spreads_147 : decode cX11_spreads 147 = .ok (.bipush 10, 2) := gdX11_spreads_128.2.2.2.2.2.2.2.2.2.2.2.2.2.1
theorem dX11_spreads_149 : decode cX11_spreads 149 = .ok (.if_icmp .ge 109, 3) := gdX11_spreads_128.2.2.2.2.2.2.2.2.2.2.2.2.2.2.1
theorem dX11_spreads_152 : decode cX11_spreads 152 = .ok (.iconst 0, 1) := gdX11_spreads_128.2.2.2.2.2.2.2.2.2.2.2.2.2.2.2
theorem gdX11_spreads_153 : (decode cX11_spreads 153 = .ok (.istore_n 2, 1)) ∧ (decode cX11_spreads 154 = .ok (.iload_n 2, 1)) ∧ (decode cX11_spreads 155 = .ok (.bipush 10, 2)) ∧ (decode cX11_spreads 157 = .ok (.if_icmp .ge 95, 3)) ∧ (decode cX11_spreads 160 = .ok (.iconst 0, 1)) ∧ (decode cX11_spreads 161 = .ok (.istore_n 3, 1)) ∧ (decode cX11_spreads 162 = .ok (.iload_n 3, 1)) ∧ (decode cX11_spreads 163 = .ok (.bipush 10, 2)) ∧ (decode cX11_spreads 165 = .ok (.if_icmp .ge 81, 3)) ∧ (decode cX11_spreads 168 = .ok (.aload_n 0, 1)) ∧ (decode cX11_spreads 169 = .ok (.getfield 57, 3)) ∧ (decode cX11_spreads 172 = .ok (.bipush 10, 2)) ∧ (decode cX11_spreads 174 = .ok (.iload_n 2, 1)) ∧ (decode cX11_spreads 175 = .ok (.imul, 1)) ∧ (decode cX11_spreads 176 = .ok (.iload_n 1, 1)) ∧ (decode cX11_spreads 177 = .ok (.iadd, 1)) := by decide +kernel
theorem dX11_spreads_153 : decode cX11_spreads 153 = .ok (.istore_n 2, 1) := gdX11_spreads_153.1
theorem dX11_spreads_154 : decode cX11_spreads 154 = .ok (.iload_n 2, 1) := gdX11_spreads_153.2.1
theorem dX11_spreads_155 : decode cX11_spreads 155 = .ok (.bipush 10, 2) := gdX11_spreads_153.2.2.1
theorem dX11_spreads_157 : decode cX11_spreads 157 = .ok (.if_icmp .ge 95, 3) := gdX11_spreads_153.2.2.2.1
theorem dX11_spreads_160 : decode cX11_spreads 160 = .ok (.iconst 0, 1) := gdX11_spreads_153.2.2.2.2.1
theorem dX11_spreads_161 : decode cX11_spreads 161 = .ok (.istore_n 3, 1) := gdX11_spreads_153.2.2.2.2.2.1
theorem dX11_spreads_162 : decode cX11_spreads 162 = .ok (.iload_n 3, 1) := gdX11_spreads_153.2.2.2.2.2.2.1
theorem dX11_spreads_163 : decode cX11_spreads 163 = .ok (.bipush 10, 2) := gdX11_spreads_153.2.2.2.2.2.2.2.1
theorem dX11_spreads_165 : decode cX11_spreads 165 = .ok (.if_icmp .ge 81, 3) := gdX11_spreads_153.2.2.2.2.2.2.2.2.1
theorem dX11_spreads_168 : decode cX11_spreads 168 = .ok (.aload_n 0, 1) := gdX11_spreads_153.2.2.2.2.2.2.2.2.2.1
theorem dX11_spreads_169 : decode cX11_spreads 169 = .ok (.getfield 57, 3) := gdX11_spreads_153.2.2.2.2.2.2.2.2.2.2.1
theorem dX11_spreads_172 : decode cX11_spreads 172 = .ok (.bipush 10, 2) := gdX11_spreads_153.2.2.2.2.2.2.2.2.2.2.2.1
theorem dX11_spreads_174 : decode cX11_spreads 174 = .ok (.iload_n 2, 1) := gdX11_spreads_153.2.2.2.2.2.2.2.2.2.2.2.2.1
theorem dX11_spreads_175 : decode cX11_spreads 175 = .ok (.imul, 1) := gdX11_spreads_153.2.2.2.2.2.2.2.2.2.2.2.2.2.1
theorem dX11_spreads_176 : decode cX11_spreads 176 = .ok (.iload_n 1, 1) := gdX11_spreads_153.2.2.2.2.2.2.2.2.2.2.2.2.2.2.1
theorem dX11_spreads_177 : decode cX11_spreads 177 = .ok (.iadd, 1) := gdX11_spreads_153.2.2.2.2.2.2.2.2.2.2.2.2.2.2.2
theorem gdX11_spreads_178 : (decode cX11_spreads 178 = .ok (.laload, 1)) ∧ (decode cX11_spreads 179 = .ok (.aload_n 0, 1)) ∧ (decode cX11_spreads 180 = .ok (.getfield 57, 3)) ∧ (decode cX11_spreads 183 = .ok (.bipush 10, 2)) ∧ (decode cX11_spreads 185 = .ok (.iload_n 1, 1)) ∧ (decode cX11_spreads 186 = .ok (.imul, 1)) ∧ (decode cX11_spreads 187 = .ok (.iload_n 3, 1)) ∧ (decode cX11_spreads 188 = .ok (.iadd, 1)) ∧ (decode cX11_spreads 189 = .ok (.laload, 1)) ∧ (decode cX11_spreads 190 = .ok (.ladd, 1)) ∧ (decode cX11_spreads 191 = .ok (.aload_n 0, 1)) ∧ (decode cX11_spreads 192 = .ok (.getfield 57, 3)) ∧ (decode cX11_spreads 195 = .ok (.bipush 10, 2)) ∧ (decode cX11_spreads 197 = .ok (.iload_n 2, 1)) ∧ (decode cX11_spreads 198 = .ok (.imul, 1)) ∧ (decode cX11_spreads 199 = .ok (.iload_n 3, 1)) := by decide +kernel
theorem dX11_spreads_178 : decode cX11_spreads 178 = .ok (.laload, 1) := gdX11_spreads_178.1
theorem dX11_spreads_179 : decode cX11_spreads 179 = .ok (.aload_n 0, 1) := gdX11_spreads_178.2.1
theorem dX11_spreads_180 : decode cX11_spreads 180 = .ok (.getfield 57, 3) := gdX11_spreads_178.2.2.1
theorem dX11_spreads_183 : decode cX11_spreads 183 = .ok (.bipush 10, 2) := gdX11_spreads_178.2.2.2.1
theorem dX11_spreads_185 : decode cX11_spreads 185 = .ok (.iload_n 1, 1) := gdX11_spreads_178.2.2.2.2.1
theorem dX11_spreads_186 : decode cX11_spreads 186 = .ok (.imul, 1) := gdX11_spreads_178.2.2.2.2.2.1
theorem dX11_spreads_187 : decode cX11_spreads 187 = .ok (.iload_n 3, 1) := gdX11_spreads_178.2.2.2.2.2.2.1
theorem dX11_spreads_188 : decode cX11_spreads 188 = .ok (.iadd, 1) := gdX11_spreads_178.2.2.2.2.2.2.2.1
theorem dX11_spreads_189 : decode cX11_spreads 189 = .ok (.laload, 1) := gdX11_spreads_178.2.2.2.2.2.2.2.2.1
theorem dX11_spreads_190 : decode cX11_spreads 190 = .ok (.ladd, 1) := gdX11_spreads_178.2.2.2.2.2.2.2.2.2.1
theorem dX11_spreads_191 : decode cX11_spreads 191 = .ok (.aload_n 0, 1) := gdX11_spreads_178.2.2.2.2.2.2.2.2.2.2.1
theorem dX11_spreads_192 : decode cX11_spreads 192 = .ok (.getfield 57, 3) := gdX11_spreads_178.2.2.2.2.2.2.2.2.2.2.2.1
theorem dX11_spreads_195 : decode cX11_spreads 195 = .ok (.bipush 10, 2) := gdX11_spreads_178.2.2.2.2.2.2.2.2.2.2.2.2.1
theorem dX11_spreads_197 : decode cX11_spreads 197 = .ok (.iload_n 2, 1) := gdX11_spreads_178.2.2.2.2.2.2.2.2.2.2.2.2.2.1
theorem dX11_spreads_198 : decode cX11_spreads 198 = .ok (.imul, 1) := gdX11_spreads_178.2.2.2.2.2.2.2.2.2.2.2.2.2.2.1
theorem dX11_spreads_199 : decode cX11_spreads 199 = .ok (.iload_n 3, 1) := gdX11_spreads_178.2.2.2.2.2.2.2.2.2.2.2.2.2.2.2
theorem gdX11_spreads_200 : (decode cX11_spreads 200 = .ok (.iadd, 1)) ∧ (decode cX11_spreads 201 = .ok (.laload, 1)) ∧ (decode cX11_spreads 202 = .ok (.lcmp, 1)) ∧ (decode cX11_spreads 203 = .ok (.ifCond .ge 37, 3)) ∧ (decode cX11_spreads 206 = .ok (.aload_n 0, 1)) ∧ (decode cX11_spreads 207 = .ok (.getfield 57, 3)) ∧ (decode cX11_spreads 210 = .ok (.bipush 10, 2)) ∧ (decode cX11_spreads 212 = .ok (.iload_n 2, 1)) ∧ (decode cX11_spreads 213 = .ok (.imul, 1)) ∧ (decode cX11_spreads 214 = .ok (.iload_n 3, 1)) ∧ (decode cX11_spreads 215 = .ok (.iadd, 1)) ∧ (decode cX11_spreads 216 = .ok (.aload_n 0, 1)) ∧ (decode cX11_spreads 217 = .ok (.getfield 57, 3)) ∧ (decode cX11_spreads 220 = .ok (.bipush 10, 2)) ∧ (decode cX11_spreads 222 = .ok (.iload_n 2, 1)) ∧ (decode cX11_spreads 223 = .ok (.imul, 1)) := by decide +kernel
theorem dX11_spreads_200 : decode cX11_spreads 200 = .ok (.iadd, 1) := gdX11_spreads_200.1
theorem dX11_spreads_201 : decode cX11_spreads 201 = .ok (.laload, 1) := gdX11_spreads_200.2.1
theorem dX11_spreads_202 : decode cX11_spreads 202 = .ok (.lcmp, 1) := gdX11_spreads_200.2.2.1
theorem dX11_spreads_203 : decode cX11_spreads 203 = .ok (.ifCond .ge 37, 3) := gdX11_spreads_200.2.2.2.1
theorem dX11_spreads_206 : decode cX11_spreads 206 = .ok (.aload_n 0, 1) := gdX11_spreads_200.2.2.2.2.1
theorem dX11_spreads_207 : decode cX11_spreads 207 = .ok (.getfield 57, 3) := gdX11_spreads_200.2.2.2.2.2.1
theorem dX11_spreads_210 : decode cX11_spreads 210 = .ok (.bipush 10, 2) := gdX11_spreads_200.2.2.2.2.2.2.1
theorem dX11_spreads_212 : decode cX11_spreads 212 = .ok (.iload_n 2, 1) := gdX11_spreads_200.2.2.2.2.2.2.2.1
theorem dX11_spreads_213 : decode cX11_spreads 213 = .ok (.imul, 1) := gdX11_spreads_200.2.2.2.2.2.2.2.2.1
theorem dX11_spreads_214 : decode cX11_spreads 214 = .ok (.iload_n 3, 1) := gdX11_spreads_200.2.2.2.2.2.2.2.2.2.1
theorem dX11_spreads_215 : decode cX11_spreads 215 = .ok (.iadd, 1) := gdX11_spreads_200.2.2.2.2.2.2.2.2.2.2.1
theorem dX11_spreads_216 : decode cX11_spreads 216 = .ok (.aload_n 0, 1) := gdX11_spreads_200.2.2.2.2.2.2.2.2.2.2.2.1
theorem dX11_spreads_217 : decode cX11_spreads 217 = .ok (.getfield 57, 3) := gdX11_spreads_200.2.2.2.2.2.2.2.2.2.2.2.2.1
theorem dX11_spreads_220 : decode cX11_spreads 220 = .ok (.bipush 10, 2) := gdX11_spreads_200.2.2.2.2.2.2.2.2.2.2.2.2.2.1
theorem dX11_spreads_222 : decode cX11_spreads 222 = .ok (.iload_n 2, 1) := gdX11_spreads_200.2.2.2.2.2.2.2.2.2.2.2.2.2.2.1
theorem dX11_spreads_223 : decode cX11_spreads 223 = .ok (.imul, 1) := gdX11_spreads_200.2.2.2.2.2.2.2.2.2.2.2.2.2.2.2
theorem gdX11_spreads_224 : (decode cX11_spreads 224 = .ok (.iload_n 1, 1)) ∧ (decode cX11_spreads 225 = .ok (.iadd, 1)) ∧ (decode cX11_spreads 226 = .ok (.laload, 1)) ∧ (decode cX11_spreads 227 = .ok (.aload_n 0, 1)) ∧ (decode cX11_spreads 228 = .ok (.getfield 57, 3)) ∧ (decode cX11_spreads 231 = .ok (.bipush 10, 2)) ∧ (decode cX11_spreads 233 = .ok (.iload_n 1, 1)) ∧ (decode cX11_spreads 234 = .ok (.imul, 1)) ∧ (decode cX11_spreads 235 = .ok (.iload_n 3, 1)) ∧ (decode cX11_spreads 236 = .ok (.iadd, 1)) ∧ (decode cX11_spreads 237 = .ok (.laload, 1)) ∧ (decode cX11_spreads 238 = .ok (.ladd, 1)) ∧ (decode cX11_spreads 239 = .ok (.lastore, 1)) ∧ (decode cX11_spreads 240 = .ok (.iinc 3 1, 3)) ∧ (decode cX11_spreads 243 = .ok (.goto (-81), 3)) ∧ (decode cX11_spreads 246 = .ok (.iinc 2 1, 3)) := by decide +kernel
theorem dX11_spreads_224 : decode cX11_spreads 224 = .ok (.iload_n 1, 1) := gdX11_spreads_224.1
theorem dX11_spreads_225 : decode cX11_spreads 225 = .ok (.iadd, 1) := gdX11_spreads_224.2.1
theorem dX11_spreads_226 : decode cX11_spreads 226 = .ok (.laload, 1) := gdX11_spreads_224.2.2.1
theorem dX11_spreads_227 : decode cX11_spreads 227 = .ok (.aload_n 0, 1) := gdX11_spreads_224.2.2.2.1
theorem dX11_spreads_228 : decode cX11_spreads 228 = .ok (.getfield 57, 3) := gdX11_spreads_224.2.2.2.2.1
theorem dX11_spreads_231 : decode cX11_spreads 231 = .ok (.bipush 10, 2) := gdX11_spreads_224.2.2.2.2.2.1
theorem dX11_spreads_233 : decode cX11_spreads 233 = .ok (.iload_n 1, 1) := gdX11_spreads_224.2.2.2.2.2.2.1
theorem dX11_spreads_234 : decode cX11_spreads 234 = .ok (.imul, 1) := gdX11_spreads_224.2.2.2.2.2.2.2.1
theorem dX11_spreads_235 : decode cX11_spreads 235 = .ok (.iload_n 3, 1) := gdX11_spreads_224.2.2.2.2.2.2.2.2.1
theorem dX11_spreads_236 : decode cX11_spreads 236 = .ok (.iadd, 1) := gdX11_spreads_224.2.2.2.2.2.2.2.2.2.1
theorem dX11_spreads_237 : decode cX11_spreads 237 = .ok (.laload, 1) := gdX11_spreads_224.2.2.2.2.2.2.2.2.2.2.1
theorem dX11_spreads_238 : decode cX11_spreads 238 = .ok (.ladd, 1) := gdX11_spreads_224.2.2.2.2.2.2.2.2.2.2.2.1
theorem dX11_spreads_239 : decode cX11_spreads 239 = .ok (.lastore, 1) := gdX11_spreads_224.2.2.2.2.2.2.2.2.2.2.2.2.1
theorem dX11_spreads_240 : decode cX11_spreads 240 = .ok (.iinc 3 1, 3) := gdX11_spreads_224.2.2.2.2.2.2.2.2.2.2.2.2.2.1
theorem dX11_spreads_243 : decode cX11_spreads 243 = .ok (.goto (-81), 3) := gdX11_spreads_224.2.2.2.2.2.2.2.2.2.2.2.2.2.2.1
theorem dX11_spreads_246 : decode cX11_spreads 246 = .ok (.iinc 2 1, 3) := gdX11_spreads_224.2.2.2.2.2.2.2.2.2.2.2.2.2.2.2
