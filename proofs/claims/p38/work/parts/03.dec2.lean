theorem gdX11_settles_73 : ∀ e ∈ ([(73, .goto (-73), 3), (76, .return_, 1)] : List (Nat × Instr × Nat)), decode cX11_settles e.1 = .ok e.2 := wn_all _ 73 (by decide +kernel)
theorem dX11_settles_73 : decode cX11_settles 73 = .ok (.goto (-73), 3) := wn_at gdX11_settles_73 0 rfl
theorem dX11_settles_76 : decode cX11_settles 76 = .ok (.return_, 1) := wn_at gdX11_settles_73 1 rfl
theorem gdX11_value_0 : ∀ e ∈ ([(0, .aload_n 0, 1), (1, .invokevirtual 106, 3), (4, .pop, 1), (5, .aload_n 0, 1), (6, .getfield 103, 3), (9, .istore_n 1, 1), (10, .aload_n 0, 1), (11, .aload_n 0, 1), (12, .getfield 103, 3), (15, .invokevirtual 121, 3)] : List (Nat × Instr × Nat)), decode cX11_value e.1 = .ok e.2 := wn_all _ 0 (by decide +kernel)
theorem dX11_value_0 : decode cX11_value 0 = .ok (.aload_n 0, 1) := wn_at gdX11_value_0 0 rfl
theorem dX11_value_1 : decode cX11_value 1 = .ok (.invokevirtual 106, 3) := wn_at gdX11_value_0 1 rfl
theorem dX11_value_4 : decode cX11_value 4 = .ok (.pop, 1) := wn_at gdX11_value_0 2 rfl
theorem dX11_value_5 : decode cX11_value 5 = .ok (.aload_n 0, 1) := wn_at gdX11_value_0 3 rfl
theorem dX11_value_6 : decode cX11_value 6 = .ok (.getfield 103, 3) := wn_at gdX11_value_0 4 rfl
theorem dX11_value_9 : decode cX11_value 9 = .ok (.istore_n 1, 1) := wn_at gdX11_value_0 5 rfl
theorem dX11_value_10 : decode cX11_value 10 = .ok (.aload_n 0, 1) := wn_at gdX11_value_0 6 rfl
theorem dX11_value_11 : decode cX11_value 11 = .ok (.aload_n 0, 1) := wn_at gdX11_value_0 7 rfl
theorem dX11_value_12 : decode cX11_value 12 = .ok (.getfield 103, 3) := wn_at gdX11_value_0 8 rfl
theorem dX11_value_15 : decode cX11_value 15 = .ok (.invokevirtual 121, 3) := wn_at gdX11_value_0 9 rfl
theorem gdX11_value_18 : ∀ e ∈ ([(18, .ifCond .eq 34, 3), (21, .aload_n 0, 1), (22, .iconst 0, 1), (23, .ldc 171, 2), (25, .invokevirtual 172, 3), (28, .ifCond .eq 11, 3), (31, .aload_n 0, 1), (32, .iload_n 1, 1), (33, .invokevirtual 175, 3), (36, .ifCond .ne 5, 3)] : List (Nat × Instr × Nat)), decode cX11_value e.1 = .ok e.2 := wn_all _ 18 (by decide +kernel)
theorem dX11_value_18 : decode cX11_value 18 = .ok (.ifCond .eq 34, 3) := wn_at gdX11_value_18 0 rfl
theorem dX11_value_21 : decode cX11_value 21 = .ok (.aload_n 0, 1) := wn_at gdX11_value_18 1 rfl
theorem dX11_value_22 : decode cX11_value 22 = .ok (.iconst 0, 1) := wn_at gdX11_value_18 2 rfl
theorem dX11_value_23 : decode cX11_value 23 = .ok (.ldc 171, 2) := wn_at gdX11_value_18 3 rfl
theorem dX11_value_25 : decode cX11_value 25 = .ok (.invokevirtual 172, 3) := wn_at gdX11_value_18 4 rfl
theorem dX11_value_28 : decode cX11_value 28 = .ok (.ifCond .eq 11, 3) := wn_at gdX11_value_18 5 rfl
theorem dX11_value_31 : decode cX11_value 31 = .ok (.aload_n 0, 1) := wn_at gdX11_value_18 6 rfl
theorem dX11_value_32 : decode cX11_value 32 = .ok (.iload_n 1, 1) := wn_at gdX11_value_18 7 rfl
theorem dX11_value_33 : decode cX11_value 33 = .ok (.invokevirtual 175, 3) := wn_at gdX11_value_18 8 rfl
theorem dX11_value_36 : decode cX11_value 36 = .ok (.ifCond .ne 5, 3) := wn_at gdX11_value_18 9 rfl
theorem gdX11_value_39 : ∀ e ∈ ([(39, .iconst 0, 1), (40, .ireturn, 1), (41, .aload_n 0, 1), (42, .iconst 0, 1), (43, .aload_n 0, 1), (44, .getfield 128, 3), (47, .invokevirtual 167, 3), (50, .iconst 1, 1), (51, .ireturn, 1), (52, .aload_n 0, 1)] : List (Nat × Instr × Nat)), decode cX11_value e.1 = .ok e.2 := wn_all _ 39 (by decide +kernel)
theorem dX11_value_39 : decode cX11_value 39 = .ok (.iconst 0, 1) := wn_at gdX11_value_39 0 rfl
theorem dX11_value_40 : decode cX11_value 40 = .ok (.ireturn, 1) := wn_at gdX11_value_39 1 rfl
theorem dX11_value_41 : decode cX11_value 41 = .ok (.aload_n 0, 1) := wn_at gdX11_value_39 2 rfl
theorem dX11_value_42 : decode cX11_value 42 = .ok (.iconst 0, 1) := wn_at gdX11_value_39 3 rfl
theorem dX11_value_43 : decode cX11_value 43 = .ok (.aload_n 0, 1) := wn_at gdX11_value_39 4 rfl
theorem dX11_value_44 : decode cX11_value 44 = .ok (.getfield 128, 3) := wn_at gdX11_value_39 5 rfl
theorem dX11_value_47 : decode cX11_value 47 = .ok (.invokevirtual 167, 3) := wn_at gdX11_value_39 6 rfl
theorem dX11_value_50 : decode cX11_value 50 = .ok (.iconst 1, 1) := wn_at gdX11_value_39 7 rfl
theorem dX11_value_51 : decode cX11_value 51 = .ok (.ireturn, 1) := wn_at gdX11_value_39 8 rfl
theorem dX11_value_52 : decode cX11_value 52 = .ok (.aload_n 0, 1) := wn_at gdX11_value_39 9 rfl
theorem gdX11_value_53 : ∀ e ∈ ([(53, .invokevirtual 178, 3), (56, .istore_n 2, 1), (57, .iload_n 2, 1), (58, .ifCond .ge 10, 3), (61, .aload_n 0, 1), (62, .iconst 0, 1), (63, .iload_n 1, 1), (64, .invokevirtual 124, 3), (67, .ireturn, 1), (68, .aload_n 0, 1)] : List (Nat × Instr × Nat)), decode cX11_value e.1 = .ok e.2 := wn_all _ 53 (by decide +kernel)
theorem dX11_value_53 : decode cX11_value 53 = .ok (.invokevirtual 178, 3) := wn_at gdX11_value_53 0 rfl
theorem dX11_value_56 : decode cX11_value 56 = .ok (.istore_n 2, 1) := wn_at gdX11_value_53 1 rfl
theorem dX11_value_57 : decode cX11_value 57 = .ok (.iload_n 2, 1) := wn_at gdX11_value_53 2 rfl
theorem dX11_value_58 : decode cX11_value 58 = .ok (.ifCond .ge 10, 3) := wn_at gdX11_value_53 3 rfl
theorem dX11_value_61 : decode cX11_value 61 = .ok (.aload_n 0, 1) := wn_at gdX11_value_53 4 rfl
theorem dX11_value_62 : decode cX11_value 62 = .ok (.iconst 0, 1) := wn_at gdX11_value_53 5 rfl
theorem dX11_value_63 : decode cX11_value 63 = .ok (.iload_n 1, 1) := wn_at gdX11_value_53 6 rfl
theorem dX11_value_64 : decode cX11_value 64 = .ok (.invokevirtual 124, 3) := wn_at gdX11_value_53 7 rfl
theorem dX11_value_67 : decode cX11_value 67 = .ok (.ireturn, 1) := wn_at gdX11_value_53 8 rfl
theorem dX11_value_68 : decode cX11_value 68 = .ok (.aload_n 0, 1) := wn_at gdX11_value_53 9 rfl
theorem gdX11_value_69 : ∀ e ∈ ([(69, .iload_n 1, 1), (70, .invokevirtual 175, 3), (73, .ifCond .ne 5, 3), (76, .iconst 0, 1), (77, .ireturn, 1), (78, .aload_n 0, 1), (79, .invokevirtual 118, 3), (82, .aload_n 0, 1), (83, .iconst 1, 1), (84, .iload_n 2, 1)] : List (Nat × Instr × Nat)), decode cX11_value e.1 = .ok e.2 := wn_all _ 69 (by decide +kernel)
theorem dX11_value_69 : decode cX11_value 69 = .ok (.iload_n 1, 1) := wn_at gdX11_value_69 0 rfl
theorem dX11_value_70 : decode cX11_value 70 = .ok (.invokevirtual 175, 3) := wn_at gdX11_value_69 1 rfl
theorem dX11_value_73 : decode cX11_value 73 = .ok (.ifCond .ne 5, 3) := wn_at gdX11_value_69 2 rfl
theorem dX11_value_76 : decode cX11_value 76 = .ok (.iconst 0, 1) := wn_at gdX11_value_69 3 rfl
theorem dX11_value_77 : decode cX11_value 77 = .ok (.ireturn, 1) := wn_at gdX11_value_69 4 rfl
theorem dX11_value_78 : decode cX11_value 78 = .ok (.aload_n 0, 1) := wn_at gdX11_value_69 5 rfl
theorem dX11_value_79 : decode cX11_value 79 = .ok (.invokevirtual 118, 3) := wn_at gdX11_value_69 6 rfl
theorem dX11_value_82 : decode cX11_value 82 = .ok (.aload_n 0, 1) := wn_at gdX11_value_69 7 rfl
theorem dX11_value_83 : decode cX11_value 83 = .ok (.iconst 1, 1) := wn_at gdX11_value_69 8 rfl
theorem dX11_value_84 : decode cX11_value 84 = .ok (.iload_n 2, 1) := wn_at gdX11_value_69 9 rfl
theorem gdX11_value_85 : ∀ e ∈ ([(85, .invokevirtual 167, 3), (88, .iconst 1, 1), (89, .ireturn, 1)] : List (Nat × Instr × Nat)), decode cX11_value e.1 = .ok e.2 := wn_all _ 85 (by decide +kernel)
theorem dX11_value_85 : decode cX11_value 85 = .ok (.invokevirtual 167, 3) := wn_at gdX11_value_85 0 rfl
theorem dX11_value_88 : decode cX11_value 88 = .ok (.iconst 1, 1) := wn_at gdX11_value_85 1 rfl
theorem dX11_value_89 : decode cX11_value 89 = .ok (.ireturn, 1) := wn_at gdX11_value_85 2 rfl
theorem gdX11_term_0 : ∀ e ∈ ([(0, .aload_n 0, 1), (1, .invokevirtual 181, 3), (4, .ifCond .ne 5, 3), (7, .iconst 0, 1), (8, .ireturn, 1), (9, .aload_n 0, 1), (10, .invokevirtual 106, 3), (13, .bipush 42, 2), (15, .if_icmp .eq 12, 3), (18, .aload_n 0, 1)] : List (Nat × Instr × Nat)), decode cX11_term e.1 = .ok e.2 := wn_all _ 0 (by decide +kernel)
theorem dX11_term_0 : decode cX11_term 0 = .ok (.aload_n 0, 1) := wn_at gdX11_term_0 0 rfl
theorem dX11_term_1 : decode cX11_term 1 = .ok (.invokevirtual 181, 3) := wn_at gdX11_term_0 1 rfl
theorem dX11_term_4 : decode cX11_term 4 = .ok (.ifCond .ne 5, 3) := wn_at gdX11_term_0 2 rfl
theorem dX11_term_7 : decode cX11_term 7 = .ok (.iconst 0, 1) := wn_at gdX11_term_0 3 rfl
theorem dX11_term_8 : decode cX11_term 8 = .ok (.ireturn, 1) := wn_at gdX11_term_0 4 rfl
theorem dX11_term_9 : decode cX11_term 9 = .ok (.aload_n 0, 1) := wn_at gdX11_term_0 5 rfl
theorem dX11_term_10 : decode cX11_term 10 = .ok (.invokevirtual 106, 3) := wn_at gdX11_term_0 6 rfl
theorem dX11_term_13 : decode cX11_term 13 = .ok (.bipush 42, 2) := wn_at gdX11_term_0 7 rfl
theorem dX11_term_15 : decode cX11_term 15 = .ok (.if_icmp .eq 12, 3) := wn_at gdX11_term_0 8 rfl
theorem dX11_term_18 : decode cX11_term 18 = .ok (.aload_n 0, 1) := wn_at gdX11_term_0 9 rfl
theorem gdX11_term_19 : ∀ e ∈ ([(19, .invokevirtual 106, 3), (22, .bipush 47, 2), (24, .if_icmp .ne 51, 3), (27, .aload_n 0, 1), (28, .getfield 7, 3), (31, .aload_n 0, 1), (32, .getfield 103, 3), (35, .baload, 1), (36, .bipush 42, 2), (38, .if_icmp .ne 7, 3)] : List (Nat × Instr × Nat)), decode cX11_term e.1 = .ok e.2 := wn_all _ 19 (by decide +kernel)
theorem dX11_term_19 : decode cX11_term 19 = .ok (.invokevirtual 106, 3) := wn_at gdX11_term_19 0 rfl
theorem dX11_term_22 : decode cX11_term 22 = .ok (.bipush 47, 2) := wn_at gdX11_term_19 1 rfl
theorem dX11_term_24 : decode cX11_term 24 = .ok (.if_icmp .ne 51, 3) := wn_at gdX11_term_19 2 rfl
theorem dX11_term_27 : decode cX11_term 27 = .ok (.aload_n 0, 1) := wn_at gdX11_term_19 3 rfl
theorem dX11_term_28 : decode cX11_term 28 = .ok (.getfield 7, 3) := wn_at gdX11_term_19 4 rfl
theorem dX11_term_31 : decode cX11_term 31 = .ok (.aload_n 0, 1) := wn_at gdX11_term_19 5 rfl
theorem dX11_term_32 : decode cX11_term 32 = .ok (.getfield 103, 3) := wn_at gdX11_term_19 6 rfl
theorem dX11_term_35 : decode cX11_term 35 = .ok (.baload, 1) := wn_at gdX11_term_19 7 rfl
theorem dX11_term_36 : decode cX11_term 36 = .ok (.bipush 42, 2) := wn_at gdX11_term_19 8 rfl
theorem dX11_term_38 : decode cX11_term 38 = .ok (.if_icmp .ne 7, 3) := wn_at gdX11_term_19 9 rfl
theorem gdX11_term_41 : ∀ e ∈ ([(41, .iconst 4, 1), (42, .goto 4, 3), (45, .iconst 5, 1), (46, .istore_n 1, 1), (47, .aload_n 0, 1), (48, .dup, 1), (49, .getfield 103, 3), (52, .iconst 1, 1), (53, .iadd, 1), (54, .putfield 103, 3)] : List (Nat × Instr × Nat)), decode cX11_term e.1 = .ok e.2 := wn_all _ 41 (by decide +kernel)
theorem dX11_term_41 : decode cX11_term 41 = .ok (.iconst 4, 1) := wn_at gdX11_term_41 0 rfl
theorem dX11_term_42 : decode cX11_term 42 = .ok (.goto 4, 3) := wn_at gdX11_term_41 1 rfl
theorem dX11_term_45 : decode cX11_term 45 = .ok (.iconst 5, 1) := wn_at gdX11_term_41 2 rfl
theorem dX11_term_46 : decode cX11_term 46 = .ok (.istore_n 1, 1) := wn_at gdX11_term_41 3 rfl
theorem dX11_term_47 : decode cX11_term 47 = .ok (.aload_n 0, 1) := wn_at gdX11_term_41 4 rfl
theorem dX11_term_48 : decode cX11_term 48 = .ok (.dup, 1) := wn_at gdX11_term_41 5 rfl
theorem dX11_term_49 : decode cX11_term 49 = .ok (.getfield 103, 3) := wn_at gdX11_term_41 6 rfl
theorem dX11_term_52 : decode cX11_term 52 = .ok (.iconst 1, 1) := wn_at gdX11_term_41 7 rfl
theorem dX11_term_53 : decode cX11_term 53 = .ok (.iadd, 1) := wn_at gdX11_term_41 8 rfl
theorem dX11_term_54 : decode cX11_term 54 = .ok (.putfield 103, 3) := wn_at gdX11_term_41 9 rfl
theorem gdX11_term_57 : ∀ e ∈ ([(57, .aload_n 0, 1), (58, .invokevirtual 181, 3), (61, .ifCond .ne 5, 3), (64, .iconst 0, 1), (65, .ireturn, 1), (66, .aload_n 0, 1), (67, .iload_n 1, 1), (68, .iconst 0, 1), (69, .invokevirtual 167, 3), (72, .goto (-63), 3)] : List (Nat × Instr × Nat)), decode cX11_term e.1 = .ok e.2 := wn_all _ 57 (by decide +kernel)
theorem dX11_term_57 : decode cX11_term 57 = .ok (.aload_n 0, 1) := wn_at gdX11_term_57 0 rfl
theorem dX11_term_58 : decode cX11_term 58 = .ok (.invokevirtual 181, 3) := wn_at gdX11_term_57 1 rfl
theorem dX11_term_61 : decode cX11_term 61 = .ok (.ifCond .ne 5, 3) := wn_at gdX11_term_57 2 rfl
theorem dX11_term_64 : decode cX11_term 64 = .ok (.iconst 0, 1) := wn_at gdX11_term_57 3 rfl
theorem dX11_term_65 : decode cX11_term 65 = .ok (.ireturn, 1) := wn_at gdX11_term_57 4 rfl
theorem dX11_term_66 : decode cX11_term 66 = .ok (.aload_n 0, 1) := wn_at gdX11_term_57 5 rfl
theorem dX11_term_67 : decode cX11_term 67 = .ok (.iload_n 1, 1) := wn_at gdX11_term_57 6 rfl
theorem dX11_term_68 : decode cX11_term 68 = .ok (.iconst 0, 1) := wn_at gdX11_term_57 7 rfl
theorem dX11_term_69 : decode cX11_term 69 = .ok (.invokevirtual 167, 3) := wn_at gdX11_term_57 8 rfl
theorem dX11_term_72 : decode cX11_term 72 = .ok (.goto (-63), 3) := wn_at gdX11_term_57 9 rfl
theorem gdX11_term_75 : ∀ e ∈ ([(75, .iconst 1, 1), (76, .ireturn, 1)] : List (Nat × Instr × Nat)), decode cX11_term e.1 = .ok e.2 := wn_all _ 75 (by decide +kernel)
theorem dX11_term_75 : decode cX11_term 75 = .ok (.iconst 1, 1) := wn_at gdX11_term_75 0 rfl
theorem dX11_term_76 : decode cX11_term 76 = .ok (.ireturn, 1) := wn_at gdX11_term_75 1 rfl
theorem gdX11_sum_0 : ∀ e ∈ ([(0, .aload_n 0, 1), (1, .invokevirtual 185, 3), (4, .ifCond .ne 5, 3), (7, .iconst 0, 1), (8, .ireturn, 1), (9, .aload_n 0, 1), (10, .invokevirtual 106, 3), (13, .bipush 43, 2), (15, .if_icmp .eq 12, 3), (18, .aload_n 0, 1)] : List (Nat × Instr × Nat)), decode cX11_sum e.1 = .ok e.2 := wn_all _ 0 (by decide +kernel)
theorem dX11_sum_0 : decode cX11_sum 0 = .ok (.aload_n 0, 1) := wn_at gdX11_sum_0 0 rfl
theorem dX11_sum_1 : decode cX11_sum 1 = .ok (.invokevirtual 185, 3) := wn_at gdX11_sum_0 1 rfl
theorem dX11_sum_4 : decode cX11_sum 4 = .ok (.ifCond .ne 5, 3) := wn_at gdX11_sum_0 2 rfl
theorem dX11_sum_7 : decode cX11_sum 7 = .ok (.iconst 0, 1) := wn_at gdX11_sum_0 3 rfl
theorem dX11_sum_8 : decode cX11_sum 8 = .ok (.ireturn, 1) := wn_at gdX11_sum_0 4 rfl
theorem dX11_sum_9 : decode cX11_sum 9 = .ok (.aload_n 0, 1) := wn_at gdX11_sum_0 5 rfl
theorem dX11_sum_10 : decode cX11_sum 10 = .ok (.invokevirtual 106, 3) := wn_at gdX11_sum_0 6 rfl
theorem dX11_sum_13 : decode cX11_sum 13 = .ok (.bipush 43, 2) := wn_at gdX11_sum_0 7 rfl
theorem dX11_sum_15 : decode cX11_sum 15 = .ok (.if_icmp .eq 12, 3) := wn_at gdX11_sum_0 8 rfl
theorem dX11_sum_18 : decode cX11_sum 18 = .ok (.aload_n 0, 1) := wn_at gdX11_sum_0 9 rfl
theorem gdX11_sum_19 : ∀ e ∈ ([(19, .invokevirtual 106, 3), (22, .bipush 45, 2), (24, .if_icmp .ne 51, 3), (27, .aload_n 0, 1), (28, .getfield 7, 3), (31, .aload_n 0, 1), (32, .getfield 103, 3), (35, .baload, 1), (36, .bipush 43, 2), (38, .if_icmp .ne 7, 3)] : List (Nat × Instr × Nat)), decode cX11_sum e.1 = .ok e.2 := wn_all _ 19 (by decide +kernel)
theorem dX11_sum_19 : decode cX11_sum 19 = .ok (.invokevirtual 106, 3) := wn_at gdX11_sum_19 0 rfl
theorem dX11_sum_22 : decode cX11_sum 22 = .ok (.bipush 45, 2) := wn_at gdX11_sum_19 1 rfl
theorem dX11_sum_24 : decode cX11_sum 24 = .ok (.if_icmp .ne 51, 3) := wn_at gdX11_sum_19 2 rfl
theorem dX11_sum_27 : decode cX11_sum 27 = .ok (.aload_n 0, 1) := wn_at gdX11_sum_19 3 rfl
theorem dX11_sum_28 : decode cX11_sum 28 = .ok (.getfield 7, 3) := wn_at gdX11_sum_19 4 rfl
theorem dX11_sum_31 : decode cX11_sum 31 = .ok (.aload_n 0, 1) := wn_at gdX11_sum_19 5 rfl
theorem dX11_sum_32 : decode cX11_sum 32 = .ok (.getfield 103, 3) := wn_at gdX11_sum_19 6 rfl
theorem dX11_sum_35 : decode cX11_sum 35 = .ok (.baload, 1) := wn_at gdX11_sum_19 7 rfl
theorem dX11_sum_36 : decode cX11_sum 36 = .ok (.bipush 43, 2) := wn_at gdX11_sum_19 8 rfl
theorem dX11_sum_38 : decode cX11_sum 38 = .ok (.if_icmp .ne 7, 3) := wn_at gdX11_sum_19 9 rfl
theorem gdX11_sum_41 : ∀ e ∈ ([(41, .iconst 2, 1), (42, .goto 4, 3), (45, .iconst 3, 1), (46, .istore_n 1, 1), (47, .aload_n 0, 1), (48, .dup, 1), (49, .getfield 103, 3), (52, .iconst 1, 1), (53, .iadd, 1), (54, .putfield 103, 3)] : List (Nat × Instr × Nat)), decode cX11_sum e.1 = .ok e.2 := wn_all _ 41 (by decide +kernel)
theorem dX11_sum_41 : decode cX11_sum 41 = .ok (.iconst 2, 1) := wn_at gdX11_sum_41 0 rfl
theorem dX11_sum_42 : decode cX11_sum 42 = .ok (.goto 4, 3) := wn_at gdX11_sum_41 1 rfl
theorem dX11_sum_45 : decode cX11_sum 45 = .ok (.iconst 3, 1) := wn_at gdX11_sum_41 2 rfl
theorem dX11_sum_46 : decode cX11_sum 46 = .ok (.istore_n 1, 1) := wn_at gdX11_sum_41 3 rfl
theorem dX11_sum_47 : decode cX11_sum 47 = .ok (.aload_n 0, 1) := wn_at gdX11_sum_41 4 rfl
theorem dX11_sum_48 : decode cX11_sum 48 = .ok (.dup, 1) := wn_at gdX11_sum_41 5 rfl
theorem dX11_sum_49 : decode cX11_sum 49 = .ok (.getfield 103, 3) := wn_at gdX11_sum_41 6 rfl
theorem dX11_sum_52 : decode cX11_sum 52 = .ok (.iconst 1, 1) := wn_at gdX11_sum_41 7 rfl
theorem dX11_sum_53 : decode cX11_sum 53 = .ok (.iadd, 1) := wn_at gdX11_sum_41 8 rfl
theorem dX11_sum_54 : decode cX11_sum 54 = .ok (.putfield 103, 3) := wn_at gdX11_sum_41 9 rfl
theorem gdX11_sum_57 : ∀ e ∈ ([(57, .aload_n 0, 1), (58, .invokevirtual 185, 3), (61, .ifCond .ne 5, 3), (64, .iconst 0, 1), (65, .ireturn, 1), (66, .aload_n 0, 1), (67, .iload_n 1, 1), (68, .iconst 0, 1), (69, .invokevirtual 167, 3), (72, .goto (-63), 3)] : List (Nat × Instr × Nat)), decode cX11_sum e.1 = .ok e.2 := wn_all _ 57 (by decide +kernel)
theorem dX11_sum_57 : decode cX11_sum 57 = .ok (.aload_n 0, 1) := wn_at gdX11_sum_57 0 rfl
theorem dX11_sum_58 : decode cX11_sum 58 = .ok (.invokevirtual 185, 3) := wn_at gdX11_sum_57 1 rfl
theorem dX11_sum_61 : decode cX11_sum 61 = .ok (.ifCond .ne 5, 3) := wn_at gdX11_sum_57 2 rfl
theorem dX11_sum_64 : decode cX11_sum 64 = .ok (.iconst 0, 1) := wn_at gdX11_sum_57 3 rfl
theorem dX11_sum_65 : decode cX11_sum 65 = .ok (.ireturn, 1) := wn_at gdX11_sum_57 4 rfl
theorem dX11_sum_66 : decode cX11_sum 66 = .ok (.aload_n 0, 1) := wn_at gdX11_sum_57 5 rfl
theorem dX11_sum_67 : decode cX11_sum 67 = .ok (.iload_n 1, 1) := wn_at gdX11_sum_57 6 rfl
theorem dX11_sum_68 : decode cX11_sum 68 = .ok (.iconst 0, 1) := wn_at gdX11_sum_57 7 rfl
theorem dX11_sum_69 : decode cX11_sum 69 = .ok (.invokevirtual 167, 3) := wn_at gdX11_sum_57 8 rfl
theorem dX11_sum_72 : decode cX11_sum 72 = .ok (.goto (-63), 3) := wn_at gdX11_sum_57 9 rfl
theorem gdX11_sum_75 : ∀ e ∈ ([(75, .iconst 1, 1), (76, .ireturn, 1)] : List (Nat × Instr × Nat)), decode cX11_sum e.1 = .ok e.2 := wn_all _ 75 (by decide +kernel)
theorem dX11_sum_75 : decode cX11_sum 75 = .ok (.iconst 1, 1) := wn_at gdX11_sum_75 0 rfl
theorem dX11_sum_76 : decode cX11_sum 76 = .ok (.ireturn, 1) := wn_at gdX11_sum_75 1 rfl
theorem gdX11_compare_0 : ∀ e ∈ ([(0, .aload_n 0, 1), (1, .invokevirtual 188, 3), (4, .ifCond .ne 5, 3), (7, .iconst 0, 1), (8, .ireturn, 1), (9, .aload_n 0, 1), (10, .invokevirtual 106, 3), (13, .istore_n 1, 1), (14, .aload_n 0, 1), (15, .getfield 103, 3)] : List (Nat × Instr × Nat)), decode cX11_compare e.1 = .ok e.2 := wn_all _ 0 (by decide +kernel)
theorem dX11_compare_0 : decode cX11_compare 0 = .ok (.aload_n 0, 1) := wn_at gdX11_compare_0 0 rfl
theorem dX11_compare_1 : decode cX11_compare 1 = .ok (.invokevirtual 188, 3) := wn_at gdX11_compare_0 1 rfl
theorem dX11_compare_4 : decode cX11_compare 4 = .ok (.ifCond .ne 5, 3) := wn_at gdX11_compare_0 2 rfl
theorem dX11_compare_7 : decode cX11_compare 7 = .ok (.iconst 0, 1) := wn_at gdX11_compare_0 3 rfl
theorem dX11_compare_8 : decode cX11_compare 8 = .ok (.ireturn, 1) := wn_at gdX11_compare_0 4 rfl
theorem dX11_compare_9 : decode cX11_compare 9 = .ok (.aload_n 0, 1) := wn_at gdX11_compare_0 5 rfl
theorem dX11_compare_10 : decode cX11_compare 10 = .ok (.invokevirtual 106, 3) := wn_at gdX11_compare_0 6 rfl
theorem dX11_compare_13 : decode cX11_compare 13 = .ok (.istore_n 1, 1) := wn_at gdX11_compare_0 7 rfl
theorem dX11_compare_14 : decode cX11_compare 14 = .ok (.aload_n 0, 1) := wn_at gdX11_compare_0 8 rfl
theorem dX11_compare_15 : decode cX11_compare 15 = .ok (.getfield 103, 3) := wn_at gdX11_compare_0 9 rfl
theorem gdX11_compare_18 : ∀ e ∈ ([(18, .istore_n 2, 1), (19, .iload_n 1, 1), (20, .bipush 60, 2), (22, .if_icmp .eq 22, 3), (25, .iload_n 1, 1), (26, .bipush 61, 2), (28, .if_icmp .eq 16, 3), (31, .iload_n 1, 1), (32, .bipush 62, 2), (34, .if_icmp .eq 10, 3)] : List (Nat × Instr × Nat)), decode cX11_compare e.1 = .ok e.2 := wn_all _ 18 (by decide +kernel)
theorem dX11_compare_18 : decode cX11_compare 18 = .ok (.istore_n 2, 1) := wn_at gdX11_compare_18 0 rfl
theorem dX11_compare_19 : decode cX11_compare 19 = .ok (.iload_n 1, 1) := wn_at gdX11_compare_18 1 rfl
theorem dX11_compare_20 : decode cX11_compare 20 = .ok (.bipush 60, 2) := wn_at gdX11_compare_18 2 rfl
theorem dX11_compare_22 : decode cX11_compare 22 = .ok (.if_icmp .eq 22, 3) := wn_at gdX11_compare_18 3 rfl
theorem dX11_compare_25 : decode cX11_compare 25 = .ok (.iload_n 1, 1) := wn_at gdX11_compare_18 4 rfl
theorem dX11_compare_26 : decode cX11_compare 26 = .ok (.bipush 61, 2) := wn_at gdX11_compare_18 5 rfl
theorem dX11_compare_28 : decode cX11_compare 28 = .ok (.if_icmp .eq 16, 3) := wn_at gdX11_compare_18 6 rfl
theorem dX11_compare_31 : decode cX11_compare 31 = .ok (.iload_n 1, 1) := wn_at gdX11_compare_18 7 rfl
theorem dX11_compare_32 : decode cX11_compare 32 = .ok (.bipush 62, 2) := wn_at gdX11_compare_18 8 rfl
theorem dX11_compare_34 : decode cX11_compare 34 = .ok (.if_icmp .eq 10, 3) := wn_at gdX11_compare_18 9 rfl
theorem gdX11_compare_37 : ∀ e ∈ ([(37, .aload_n 0, 1), (38, .iconst 0, 1), (39, .iload_n 2, 1), (40, .invokevirtual 124, 3), (43, .ireturn, 1), (44, .aload_n 0, 1), (45, .dup, 1), (46, .getfield 103, 3), (49, .iconst 1, 1), (50, .iadd, 1)] : List (Nat × Instr × Nat)), decode cX11_compare e.1 = .ok e.2 := wn_all _ 37 (by decide +kernel)
theorem dX11_compare_37 : decode cX11_compare 37 = .ok (.aload_n 0, 1) := wn_at gdX11_compare_37 0 rfl
theorem dX11_compare_38 : decode cX11_compare 38 = .ok (.iconst 0, 1) := wn_at gdX11_compare_37 1 rfl
theorem dX11_compare_39 : decode cX11_compare 39 = .ok (.iload_n 2, 1) := wn_at gdX11_compare_37 2 rfl
theorem dX11_compare_40 : decode cX11_compare 40 = .ok (.invokevirtual 124, 3) := wn_at gdX11_compare_37 3 rfl
theorem dX11_compare_43 : decode cX11_compare 43 = .ok (.ireturn, 1) := wn_at gdX11_compare_37 4 rfl
theorem dX11_compare_44 : decode cX11_compare 44 = .ok (.aload_n 0, 1) := wn_at gdX11_compare_37 5 rfl
theorem dX11_compare_45 : decode cX11_compare 45 = .ok (.dup, 1) := wn_at gdX11_compare_37 6 rfl
theorem dX11_compare_46 : decode cX11_compare 46 = .ok (.getfield 103, 3) := wn_at gdX11_compare_37 7 rfl
theorem dX11_compare_49 : decode cX11_compare 49 = .ok (.iconst 1, 1) := wn_at gdX11_compare_37 8 rfl
theorem dX11_compare_50 : decode cX11_compare 50 = .ok (.iadd, 1) := wn_at gdX11_compare_37 9 rfl
theorem gdX11_compare_51 : ∀ e ∈ ([(51, .putfield 103, 3), (54, .iload_n 1, 1), (55, .bipush 61, 2), (57, .if_icmp .eq 32, 3), (60, .aload_n 0, 1), (61, .getfield 103, 3), (64, .aload_n 0, 1), (65, .getfield 92, 3), (68, .if_icmp .ge 21, 3), (71, .aload_n 0, 1)] : List (Nat × Instr × Nat)), decode cX11_compare e.1 = .ok e.2 := wn_all _ 51 (by decide +kernel)
theorem dX11_compare_51 : decode cX11_compare 51 = .ok (.putfield 103, 3) := wn_at gdX11_compare_51 0 rfl
theorem dX11_compare_54 : decode cX11_compare 54 = .ok (.iload_n 1, 1) := wn_at gdX11_compare_51 1 rfl
theorem dX11_compare_55 : decode cX11_compare 55 = .ok (.bipush 61, 2) := wn_at gdX11_compare_51 2 rfl
theorem dX11_compare_57 : decode cX11_compare 57 = .ok (.if_icmp .eq 32, 3) := wn_at gdX11_compare_51 3 rfl
theorem dX11_compare_60 : decode cX11_compare 60 = .ok (.aload_n 0, 1) := wn_at gdX11_compare_51 4 rfl
theorem dX11_compare_61 : decode cX11_compare 61 = .ok (.getfield 103, 3) := wn_at gdX11_compare_51 5 rfl
theorem dX11_compare_64 : decode cX11_compare 64 = .ok (.aload_n 0, 1) := wn_at gdX11_compare_51 6 rfl
theorem dX11_compare_65 : decode cX11_compare 65 = .ok (.getfield 92, 3) := wn_at gdX11_compare_51 7 rfl
theorem dX11_compare_68 : decode cX11_compare 68 = .ok (.if_icmp .ge 21, 3) := wn_at gdX11_compare_51 8 rfl
theorem dX11_compare_71 : decode cX11_compare 71 = .ok (.aload_n 0, 1) := wn_at gdX11_compare_51 9 rfl
theorem gdX11_compare_72 : ∀ e ∈ ([(72, .getfield 7, 3), (75, .aload_n 0, 1), (76, .getfield 103, 3), (79, .baload, 1), (80, .bipush 61, 2), (82, .if_icmp .ne 7, 3), (85, .iconst 1, 1), (86, .goto 4, 3), (89, .iconst 0, 1), (90, .istore_n 3, 1)] : List (Nat × Instr × Nat)), decode cX11_compare e.1 = .ok e.2 := wn_all _ 72 (by decide +kernel)
theorem dX11_compare_72 : decode cX11_compare 72 = .ok (.getfield 7, 3) := wn_at gdX11_compare_72 0 rfl
theorem dX11_compare_75 : decode cX11_compare 75 = .ok (.aload_n 0, 1) := wn_at gdX11_compare_72 1 rfl
theorem dX11_compare_76 : decode cX11_compare 76 = .ok (.getfield 103, 3) := wn_at gdX11_compare_72 2 rfl
theorem dX11_compare_79 : decode cX11_compare 79 = .ok (.baload, 1) := wn_at gdX11_compare_72 3 rfl
theorem dX11_compare_80 : decode cX11_compare 80 = .ok (.bipush 61, 2) := wn_at gdX11_compare_72 4 rfl
theorem dX11_compare_82 : decode cX11_compare 82 = .ok (.if_icmp .ne 7, 3) := wn_at gdX11_compare_72 5 rfl
theorem dX11_compare_85 : decode cX11_compare 85 = .ok (.iconst 1, 1) := wn_at gdX11_compare_72 6 rfl
theorem dX11_compare_86 : decode cX11_compare 86 = .ok (.goto 4, 3) := wn_at gdX11_compare_72 7 rfl
theorem dX11_compare_89 : decode cX11_compare 89 = .ok (.iconst 0, 1) := wn_at gdX11_compare_72 8 rfl
theorem dX11_compare_90 : decode cX11_compare 90 = .ok (.istore_n 3, 1) := wn_at gdX11_compare_72 9 rfl
theorem gdX11_compare_91 : ∀ e ∈ ([(91, .iload_n 3, 1), (92, .ifCond .eq 13, 3), (95, .aload_n 0, 1), (96, .dup, 1), (97, .getfield 103, 3), (100, .iconst 1, 1), (101, .iadd, 1), (102, .putfield 103, 3), (105, .aload_n 0, 1), (106, .iload_n 2, 1)] : List (Nat × Instr × Nat)), decode cX11_compare e.1 = .ok e.2 := wn_all _ 91 (by decide +kernel)
theorem dX11_compare_91 : decode cX11_compare 91 = .ok (.iload_n 3, 1) := wn_at gdX11_compare_91 0 rfl
theorem dX11_compare_92 : decode cX11_compare 92 = .ok (.ifCond .eq 13, 3) := wn_at gdX11_compare_91 1 rfl
theorem dX11_compare_95 : decode cX11_compare 95 = .ok (.aload_n 0, 1) := wn_at gdX11_compare_91 2 rfl
theorem dX11_compare_96 : decode cX11_compare 96 = .ok (.dup, 1) := wn_at gdX11_compare_91 3 rfl
theorem dX11_compare_97 : decode cX11_compare 97 = .ok (.getfield 103, 3) := wn_at gdX11_compare_91 4 rfl
theorem dX11_compare_100 : decode cX11_compare 100 = .ok (.iconst 1, 1) := wn_at gdX11_compare_91 5 rfl
theorem dX11_compare_101 : decode cX11_compare 101 = .ok (.iadd, 1) := wn_at gdX11_compare_91 6 rfl
theorem dX11_compare_102 : decode cX11_compare 102 = .ok (.putfield 103, 3) := wn_at gdX11_compare_91 7 rfl
theorem dX11_compare_105 : decode cX11_compare 105 = .ok (.aload_n 0, 1) := wn_at gdX11_compare_91 8 rfl
theorem dX11_compare_106 : decode cX11_compare 106 = .ok (.iload_n 2, 1) := wn_at gdX11_compare_91 9 rfl
theorem gdX11_compare_107 : ∀ e ∈ ([(107, .invokevirtual 175, 3), (110, .ifCond .ne 5, 3), (113, .iconst 0, 1), (114, .ireturn, 1), (115, .iload_n 1, 1), (116, .bipush 60, 2), (118, .if_icmp .ne 15, 3), (121, .iload_n 3, 1), (122, .ifCond .eq 7, 3), (125, .iconst 1, 1)] : List (Nat × Instr × Nat)), decode cX11_compare e.1 = .ok e.2 := wn_all _ 107 (by decide +kernel)
theorem dX11_compare_107 : decode cX11_compare 107 = .ok (.invokevirtual 175, 3) := wn_at gdX11_compare_107 0 rfl
theorem dX11_compare_110 : decode cX11_compare 110 = .ok (.ifCond .ne 5, 3) := wn_at gdX11_compare_107 1 rfl
theorem dX11_compare_113 : decode cX11_compare 113 = .ok (.iconst 0, 1) := wn_at gdX11_compare_107 2 rfl
theorem dX11_compare_114 : decode cX11_compare 114 = .ok (.ireturn, 1) := wn_at gdX11_compare_107 3 rfl
theorem dX11_compare_115 : decode cX11_compare 115 = .ok (.iload_n 1, 1) := wn_at gdX11_compare_107 4 rfl
theorem dX11_compare_116 : decode cX11_compare 116 = .ok (.bipush 60, 2) := wn_at gdX11_compare_107 5 rfl
theorem dX11_compare_118 : decode cX11_compare 118 = .ok (.if_icmp .ne 15, 3) := wn_at gdX11_compare_107 6 rfl
theorem dX11_compare_121 : decode cX11_compare 121 = .ok (.iload_n 3, 1) := wn_at gdX11_compare_107 7 rfl
theorem dX11_compare_122 : decode cX11_compare 122 = .ok (.ifCond .eq 7, 3) := wn_at gdX11_compare_107 8 rfl
theorem dX11_compare_125 : decode cX11_compare 125 = .ok (.iconst 1, 1) := wn_at gdX11_compare_107 9 rfl
theorem gdX11_compare_126 : ∀ e ∈ ([(126, .goto 26, 3), (129, .iconst 0, 1), (130, .goto 22, 3), (133, .iload_n 1, 1), (134, .bipush 61, 2), (136, .if_icmp .ne 7, 3), (139, .iconst 2, 1), (140, .goto 12, 3), (143, .iload_n 3, 1), (144, .ifCond .eq 7, 3)] : List (Nat × Instr × Nat)), decode cX11_compare e.1 = .ok e.2 := wn_all _ 126 (by decide +kernel)
theorem dX11_compare_126 : decode cX11_compare 126 = .ok (.goto 26, 3) := wn_at gdX11_compare_126 0 rfl
theorem dX11_compare_129 : decode cX11_compare 129 = .ok (.iconst 0, 1) := wn_at gdX11_compare_126 1 rfl
theorem dX11_compare_130 : decode cX11_compare 130 = .ok (.goto 22, 3) := wn_at gdX11_compare_126 2 rfl
theorem dX11_compare_133 : decode cX11_compare 133 = .ok (.iload_n 1, 1) := wn_at gdX11_compare_126 3 rfl
theorem dX11_compare_134 : decode cX11_compare 134 = .ok (.bipush 61, 2) := wn_at gdX11_compare_126 4 rfl
theorem dX11_compare_136 : decode cX11_compare 136 = .ok (.if_icmp .ne 7, 3) := wn_at gdX11_compare_126 5 rfl
theorem dX11_compare_139 : decode cX11_compare 139 = .ok (.iconst 2, 1) := wn_at gdX11_compare_126 6 rfl
theorem dX11_compare_140 : decode cX11_compare 140 = .ok (.goto 12, 3) := wn_at gdX11_compare_126 7 rfl
theorem dX11_compare_143 : decode cX11_compare 143 = .ok (.iload_n 3, 1) := wn_at gdX11_compare_126 8 rfl
theorem dX11_compare_144 : decode cX11_compare 144 = .ok (.ifCond .eq 7, 3) := wn_at gdX11_compare_126 9 rfl
theorem gdX11_compare_147 : ∀ e ∈ ([(147, .iconst 3, 1), (148, .goto 4, 3), (151, .iconst 4, 1), (152, .istore 4, 2), (154, .aload_n 0, 1), (155, .invokevirtual 188, 3), (158, .ifCond .ne 5, 3), (161, .iconst 0, 1), (162, .ireturn, 1), (163, .aload_n 0, 1)] : List (Nat × Instr × Nat)), decode cX11_compare e.1 = .ok e.2 := wn_all _ 147 (by decide +kernel)
theorem dX11_compare_147 : decode cX11_compare 147 = .ok (.iconst 3, 1) := wn_at gdX11_compare_147 0 rfl
theorem dX11_compare_148 : decode cX11_compare 148 = .ok (.goto 4, 3) := wn_at gdX11_compare_147 1 rfl
theorem dX11_compare_151 : decode cX11_compare 151 = .ok (.iconst 4, 1) := wn_at gdX11_compare_147 2 rfl
theorem dX11_compare_152 : decode cX11_compare 152 = .ok (.istore 4, 2) := wn_at gdX11_compare_147 3 rfl
theorem dX11_compare_154 : decode cX11_compare 154 = .ok (.aload_n 0, 1) := wn_at gdX11_compare_147 4 rfl
theorem dX11_compare_155 : decode cX11_compare 155 = .ok (.invokevirtual 188, 3) := wn_at gdX11_compare_147 5 rfl
theorem dX11_compare_158 : decode cX11_compare 158 = .ok (.ifCond .ne 5, 3) := wn_at gdX11_compare_147 6 rfl
theorem dX11_compare_161 : decode cX11_compare 161 = .ok (.iconst 0, 1) := wn_at gdX11_compare_147 7 rfl
theorem dX11_compare_162 : decode cX11_compare 162 = .ok (.ireturn, 1) := wn_at gdX11_compare_147 8 rfl
theorem dX11_compare_163 : decode cX11_compare 163 = .ok (.aload_n 0, 1) := wn_at gdX11_compare_147 9 rfl
theorem gdX11_compare_164 : ∀ e ∈ ([(164, .bipush 6, 2), (166, .iload 4, 2), (168, .iadd, 1), (169, .iconst 0, 1), (170, .invokevirtual 167, 3), (173, .iconst 1, 1), (174, .ireturn, 1)] : List (Nat × Instr × Nat)), decode cX11_compare e.1 = .ok e.2 := wn_all _ 164 (by decide +kernel)
theorem dX11_compare_164 : decode cX11_compare 164 = .ok (.bipush 6, 2) := wn_at gdX11_compare_164 0 rfl
theorem dX11_compare_166 : decode cX11_compare 166 = .ok (.iload 4, 2) := wn_at gdX11_compare_164 1 rfl
theorem dX11_compare_168 : decode cX11_compare 168 = .ok (.iadd, 1) := wn_at gdX11_compare_164 2 rfl
theorem dX11_compare_169 : decode cX11_compare 169 = .ok (.iconst 0, 1) := wn_at gdX11_compare_164 3 rfl
theorem dX11_compare_170 : decode cX11_compare 170 = .ok (.invokevirtual 167, 3) := wn_at gdX11_compare_164 4 rfl
theorem dX11_compare_173 : decode cX11_compare 173 = .ok (.iconst 1, 1) := wn_at gdX11_compare_164 5 rfl
theorem dX11_compare_174 : decode cX11_compare 174 = .ok (.ireturn, 1) := wn_at gdX11_compare_164 6 rfl
theorem gdX11_fact_0 : ∀ e ∈ ([(0, .iconst 1, 1), (1, .istore_n 1, 1), (2, .iload_n 1, 1), (3, .ifCond .eq 72, 3), (6, .iconst 0, 1), (7, .istore_n 1, 1), (8, .aload_n 0, 1), (9, .invokevirtual 106, 3), (12, .istore_n 2, 1), (13, .aload_n 0, 1)] : List (Nat × Instr × Nat)), decode cX11_fact e.1 = .ok e.2 := wn_all _ 0 (by decide +kernel)
theorem dX11_fact_0 : decode cX11_fact 0 = .ok (.iconst 1, 1) := wn_at gdX11_fact_0 0 rfl
theorem dX11_fact_1 : decode cX11_fact 1 = .ok (.istore_n 1, 1) := wn_at gdX11_fact_0 1 rfl
theorem dX11_fact_2 : decode cX11_fact 2 = .ok (.iload_n 1, 1) := wn_at gdX11_fact_0 2 rfl
theorem dX11_fact_3 : decode cX11_fact 3 = .ok (.ifCond .eq 72, 3) := wn_at gdX11_fact_0 3 rfl
theorem dX11_fact_6 : decode cX11_fact 6 = .ok (.iconst 0, 1) := wn_at gdX11_fact_0 4 rfl
theorem dX11_fact_7 : decode cX11_fact 7 = .ok (.istore_n 1, 1) := wn_at gdX11_fact_0 5 rfl
theorem dX11_fact_8 : decode cX11_fact 8 = .ok (.aload_n 0, 1) := wn_at gdX11_fact_0 6 rfl
theorem dX11_fact_9 : decode cX11_fact 9 = .ok (.invokevirtual 106, 3) := wn_at gdX11_fact_0 7 rfl
theorem dX11_fact_12 : decode cX11_fact 12 = .ok (.istore_n 2, 1) := wn_at gdX11_fact_0 8 rfl
theorem dX11_fact_13 : decode cX11_fact 13 = .ok (.aload_n 0, 1) := wn_at gdX11_fact_0 9 rfl
theorem gdX11_fact_14 : ∀ e ∈ ([(14, .ldc2_w 191, 3), (17, .invokevirtual 114, 3), (20, .ifCond .eq 23, 3), (23, .aload_n 0, 1), (24, .bipush 11, 2), (26, .invokevirtual 193, 3), (29, .ifCond .ne 5, 3), (32, .iconst 0, 1), (33, .ireturn, 1), (34, .aload_n 0, 1)] : List (Nat × Instr × Nat)), decode cX11_fact e.1 = .ok e.2 := wn_all _ 14 (by decide +kernel)
theorem dX11_fact_14 : decode cX11_fact 14 = .ok (.ldc2_w 191, 3) := wn_at gdX11_fact_14 0 rfl
theorem dX11_fact_17 : decode cX11_fact 17 = .ok (.invokevirtual 114, 3) := wn_at gdX11_fact_14 1 rfl
theorem dX11_fact_20 : decode cX11_fact 20 = .ok (.ifCond .eq 23, 3) := wn_at gdX11_fact_14 2 rfl
theorem dX11_fact_23 : decode cX11_fact 23 = .ok (.aload_n 0, 1) := wn_at gdX11_fact_14 3 rfl
theorem dX11_fact_24 : decode cX11_fact 24 = .ok (.bipush 11, 2) := wn_at gdX11_fact_14 4 rfl
theorem dX11_fact_26 : decode cX11_fact 26 = .ok (.invokevirtual 193, 3) := wn_at gdX11_fact_14 5 rfl
theorem dX11_fact_29 : decode cX11_fact 29 = .ok (.ifCond .ne 5, 3) := wn_at gdX11_fact_14 6 rfl
theorem dX11_fact_32 : decode cX11_fact 32 = .ok (.iconst 0, 1) := wn_at gdX11_fact_14 7 rfl
theorem dX11_fact_33 : decode cX11_fact 33 = .ok (.ireturn, 1) := wn_at gdX11_fact_14 8 rfl
theorem dX11_fact_34 : decode cX11_fact 34 = .ok (.aload_n 0, 1) := wn_at gdX11_fact_14 9 rfl
theorem gdX11_fact_35 : ∀ e ∈ ([(35, .invokevirtual 118, 3), (38, .iconst 1, 1), (39, .istore_n 1, 1), (40, .goto 32, 3), (43, .iload_n 2, 1), (44, .bipush 91, 2), (46, .if_icmp .ne 26, 3), (49, .aload_n 0, 1), (50, .bipush 91, 2), (52, .invokevirtual 193, 3)] : List (Nat × Instr × Nat)), decode cX11_fact e.1 = .ok e.2 := wn_all _ 35 (by decide +kernel)
theorem dX11_fact_35 : decode cX11_fact 35 = .ok (.invokevirtual 118, 3) := wn_at gdX11_fact_35 0 rfl
theorem dX11_fact_38 : decode cX11_fact 38 = .ok (.iconst 1, 1) := wn_at gdX11_fact_35 1 rfl
theorem dX11_fact_39 : decode cX11_fact 39 = .ok (.istore_n 1, 1) := wn_at gdX11_fact_35 2 rfl
theorem dX11_fact_40 : decode cX11_fact 40 = .ok (.goto 32, 3) := wn_at gdX11_fact_35 3 rfl
theorem dX11_fact_43 : decode cX11_fact 43 = .ok (.iload_n 2, 1) := wn_at gdX11_fact_35 4 rfl
theorem dX11_fact_44 : decode cX11_fact 44 = .ok (.bipush 91, 2) := wn_at gdX11_fact_35 5 rfl
theorem dX11_fact_46 : decode cX11_fact 46 = .ok (.if_icmp .ne 26, 3) := wn_at gdX11_fact_35 6 rfl
theorem dX11_fact_49 : decode cX11_fact 49 = .ok (.aload_n 0, 1) := wn_at gdX11_fact_35 7 rfl
theorem dX11_fact_50 : decode cX11_fact 50 = .ok (.bipush 91, 2) := wn_at gdX11_fact_35 8 rfl
theorem dX11_fact_52 : decode cX11_fact 52 = .ok (.invokevirtual 193, 3) := wn_at gdX11_fact_35 9 rfl
theorem gdX11_fact_55 : ∀ e ∈ ([(55, .ifCond .ne 5, 3), (58, .iconst 0, 1), (59, .ireturn, 1), (60, .aload_n 0, 1), (61, .dup, 1), (62, .getfield 103, 3), (65, .iconst 1, 1), (66, .iadd, 1), (67, .putfield 103, 3), (70, .iconst 1, 1)] : List (Nat × Instr × Nat)), decode cX11_fact e.1 = .ok e.2 := wn_all _ 55 (by decide +kernel)
theorem dX11_fact_55 : decode cX11_fact 55 = .ok (.ifCond .ne 5, 3) := wn_at gdX11_fact_55 0 rfl
theorem dX11_fact_58 : decode cX11_fact 58 = .ok (.iconst 0, 1) := wn_at gdX11_fact_55 1 rfl
theorem dX11_fact_59 : decode cX11_fact 59 = .ok (.ireturn, 1) := wn_at gdX11_fact_55 2 rfl
theorem dX11_fact_60 : decode cX11_fact 60 = .ok (.aload_n 0, 1) := wn_at gdX11_fact_55 3 rfl
theorem dX11_fact_61 : decode cX11_fact 61 = .ok (.dup, 1) := wn_at gdX11_fact_55 4 rfl
theorem dX11_fact_62 : decode cX11_fact 62 = .ok (.getfield 103, 3) := wn_at gdX11_fact_55 5 rfl
theorem dX11_fact_65 : decode cX11_fact 65 = .ok (.iconst 1, 1) := wn_at gdX11_fact_55 6 rfl
theorem dX11_fact_66 : decode cX11_fact 66 = .ok (.iadd, 1) := wn_at gdX11_fact_55 7 rfl
theorem dX11_fact_67 : decode cX11_fact 67 = .ok (.putfield 103, 3) := wn_at gdX11_fact_55 8 rfl
theorem dX11_fact_70 : decode cX11_fact 70 = .ok (.iconst 1, 1) := wn_at gdX11_fact_55 9 rfl
theorem gdX11_fact_71 : ∀ e ∈ ([(71, .istore_n 1, 1), (72, .goto (-70), 3), (75, .aload_n 0, 1), (76, .invokevirtual 196, 3), (79, .ireturn, 1)] : List (Nat × Instr × Nat)), decode cX11_fact e.1 = .ok e.2 := wn_all _ 71 (by decide +kernel)
theorem dX11_fact_71 : decode cX11_fact 71 = .ok (.istore_n 1, 1) := wn_at gdX11_fact_71 0 rfl
theorem dX11_fact_72 : decode cX11_fact 72 = .ok (.goto (-70), 3) := wn_at gdX11_fact_71 1 rfl
theorem dX11_fact_75 : decode cX11_fact 75 = .ok (.aload_n 0, 1) := wn_at gdX11_fact_71 2 rfl
theorem dX11_fact_76 : decode cX11_fact 76 = .ok (.invokevirtual 196, 3) := wn_at gdX11_fact_71 3 rfl
theorem dX11_fact_79 : decode cX11_fact 79 = .ok (.ireturn, 1) := wn_at gdX11_fact_71 4 rfl
theorem gdX11_isInside_0 : ∀ e ∈ ([(0, .iconst 0, 1), (1, .istore_n 1, 1), (2, .iload_n 1, 1), (3, .aload_n 0, 1), (4, .getfield 160, 3), (7, .if_icmp .ge 22, 3), (10, .aload_n 0, 1), (11, .getfield 35, 3), (14, .iload_n 1, 1), (15, .iaload, 1)] : List (Nat × Instr × Nat)), decode cX11_isInside e.1 = .ok e.2 := wn_all _ 0 (by decide +kernel)
theorem dX11_isInside_0 : decode cX11_isInside 0 = .ok (.iconst 0, 1) := wn_at gdX11_isInside_0 0 rfl
theorem dX11_isInside_1 : decode cX11_isInside 1 = .ok (.istore_n 1, 1) := wn_at gdX11_isInside_0 1 rfl
theorem dX11_isInside_2 : decode cX11_isInside 2 = .ok (.iload_n 1, 1) := wn_at gdX11_isInside_0 2 rfl
theorem dX11_isInside_3 : decode cX11_isInside 3 = .ok (.aload_n 0, 1) := wn_at gdX11_isInside_0 3 rfl
theorem dX11_isInside_4 : decode cX11_isInside 4 = .ok (.getfield 160, 3) := wn_at gdX11_isInside_0 4 rfl
theorem dX11_isInside_7 : decode cX11_isInside 7 = .ok (.if_icmp .ge 22, 3) := wn_at gdX11_isInside_0 5 rfl
theorem dX11_isInside_10 : decode cX11_isInside 10 = .ok (.aload_n 0, 1) := wn_at gdX11_isInside_0 6 rfl
theorem dX11_isInside_11 : decode cX11_isInside 11 = .ok (.getfield 35, 3) := wn_at gdX11_isInside_0 7 rfl
theorem dX11_isInside_14 : decode cX11_isInside 14 = .ok (.iload_n 1, 1) := wn_at gdX11_isInside_0 8 rfl
theorem dX11_isInside_15 : decode cX11_isInside 15 = .ok (.iaload, 1) := wn_at gdX11_isInside_0 9 rfl
theorem gdX11_isInside_16 : ∀ e ∈ ([(16, .bipush 91, 2), (18, .if_icmp .ne 5, 3), (21, .iconst 1, 1), (22, .ireturn, 1), (23, .iinc 1 1, 3), (26, .goto (-24), 3), (29, .iconst 0, 1), (30, .ireturn, 1)] : List (Nat × Instr × Nat)), decode cX11_isInside e.1 = .ok e.2 := wn_all _ 16 (by decide +kernel)
theorem dX11_isInside_16 : decode cX11_isInside 16 = .ok (.bipush 91, 2) := wn_at gdX11_isInside_16 0 rfl
theorem dX11_isInside_18 : decode cX11_isInside 18 = .ok (.if_icmp .ne 5, 3) := wn_at gdX11_isInside_16 1 rfl
theorem dX11_isInside_21 : decode cX11_isInside 21 = .ok (.iconst 1, 1) := wn_at gdX11_isInside_16 2 rfl
theorem dX11_isInside_22 : decode cX11_isInside 22 = .ok (.ireturn, 1) := wn_at gdX11_isInside_16 3 rfl
theorem dX11_isInside_23 : decode cX11_isInside 23 = .ok (.iinc 1 1, 3) := wn_at gdX11_isInside_16 4 rfl
theorem dX11_isInside_26 : decode cX11_isInside 26 = .ok (.goto (-24), 3) := wn_at gdX11_isInside_16 5 rfl
theorem dX11_isInside_29 : decode cX11_isInside 29 = .ok (.iconst 0, 1) := wn_at gdX11_isInside_16 6 rfl
theorem dX11_isInside_30 : decode cX11_isInside 30 = .ok (.ireturn, 1) := wn_at gdX11_isInside_16 7 rfl
theorem gdX11_closes_0 : ∀ e ∈ ([(0, .aload_n 0, 1), (1, .iconst 3, 1), (2, .invokevirtual 199, 3), (5, .aload_n 0, 1), (6, .invokevirtual 106, 3), (9, .bipush 93, 2), (11, .if_icmp .ne 53, 3), (14, .aload_n 0, 1), (15, .invokevirtual 202, 3), (18, .ifCond .eq 46, 3)] : List (Nat × Instr × Nat)), decode cX11_closes e.1 = .ok e.2 := wn_all _ 0 (by decide +kernel)
theorem dX11_closes_0 : decode cX11_closes 0 = .ok (.aload_n 0, 1) := wn_at gdX11_closes_0 0 rfl
theorem dX11_closes_1 : decode cX11_closes 1 = .ok (.iconst 3, 1) := wn_at gdX11_closes_0 1 rfl
theorem dX11_closes_2 : decode cX11_closes 2 = .ok (.invokevirtual 199, 3) := wn_at gdX11_closes_0 2 rfl
theorem dX11_closes_5 : decode cX11_closes 5 = .ok (.aload_n 0, 1) := wn_at gdX11_closes_0 3 rfl
theorem dX11_closes_6 : decode cX11_closes 6 = .ok (.invokevirtual 106, 3) := wn_at gdX11_closes_0 4 rfl
theorem dX11_closes_9 : decode cX11_closes 9 = .ok (.bipush 93, 2) := wn_at gdX11_closes_0 5 rfl
theorem dX11_closes_11 : decode cX11_closes 11 = .ok (.if_icmp .ne 53, 3) := wn_at gdX11_closes_0 6 rfl
theorem dX11_closes_14 : decode cX11_closes 14 = .ok (.aload_n 0, 1) := wn_at gdX11_closes_0 7 rfl
theorem dX11_closes_15 : decode cX11_closes 15 = .ok (.invokevirtual 202, 3) := wn_at gdX11_closes_0 8 rfl
theorem dX11_closes_18 : decode cX11_closes 18 = .ok (.ifCond .eq 46, 3) := wn_at gdX11_closes_0 9 rfl
theorem gdX11_closes_21 : ∀ e ∈ ([(21, .aload_n 0, 1), (22, .iconst 1, 1), (23, .invokevirtual 199, 3), (26, .aload_n 0, 1), (27, .dup, 1), (28, .getfield 160, 3), (31, .iconst 1, 1), (32, .isub, 1), (33, .putfield 160, 3), (36, .aload_n 0, 1)] : List (Nat × Instr × Nat)), decode cX11_closes e.1 = .ok e.2 := wn_all _ 21 (by decide +kernel)
theorem dX11_closes_21 : decode cX11_closes 21 = .ok (.aload_n 0, 1) := wn_at gdX11_closes_21 0 rfl
theorem dX11_closes_22 : decode cX11_closes 22 = .ok (.iconst 1, 1) := wn_at gdX11_closes_21 1 rfl
theorem dX11_closes_23 : decode cX11_closes 23 = .ok (.invokevirtual 199, 3) := wn_at gdX11_closes_21 2 rfl
theorem dX11_closes_26 : decode cX11_closes 26 = .ok (.aload_n 0, 1) := wn_at gdX11_closes_21 3 rfl
theorem dX11_closes_27 : decode cX11_closes 27 = .ok (.dup, 1) := wn_at gdX11_closes_21 4 rfl
theorem dX11_closes_28 : decode cX11_closes 28 = .ok (.getfield 160, 3) := wn_at gdX11_closes_21 5 rfl
theorem dX11_closes_31 : decode cX11_closes 31 = .ok (.iconst 1, 1) := wn_at gdX11_closes_21 6 rfl
theorem dX11_closes_32 : decode cX11_closes 32 = .ok (.isub, 1) := wn_at gdX11_closes_21 7 rfl
theorem dX11_closes_33 : decode cX11_closes 33 = .ok (.putfield 160, 3) := wn_at gdX11_closes_21 8 rfl
theorem dX11_closes_36 : decode cX11_closes 36 = .ok (.aload_n 0, 1) := wn_at gdX11_closes_21 9 rfl
theorem gdX11_closes_37 : ∀ e ∈ ([(37, .dup, 1), (38, .getfield 157, 3), (41, .iconst 1, 1), (42, .isub, 1), (43, .putfield 157, 3), (46, .aload_n 0, 1), (47, .dup, 1), (48, .getfield 103, 3), (51, .iconst 1, 1), (52, .iadd, 1)] : List (Nat × Instr × Nat)), decode cX11_closes e.1 = .ok e.2 := wn_all _ 37 (by decide +kernel)
theorem dX11_closes_37 : decode cX11_closes 37 = .ok (.dup, 1) := wn_at gdX11_closes_37 0 rfl
theorem dX11_closes_38 : decode cX11_closes 38 = .ok (.getfield 157, 3) := wn_at gdX11_closes_37 1 rfl
theorem dX11_closes_41 : decode cX11_closes 41 = .ok (.iconst 1, 1) := wn_at gdX11_closes_37 2 rfl
theorem dX11_closes_42 : decode cX11_closes 42 = .ok (.isub, 1) := wn_at gdX11_closes_37 3 rfl
theorem dX11_closes_43 : decode cX11_closes 43 = .ok (.putfield 157, 3) := wn_at gdX11_closes_37 4 rfl
theorem dX11_closes_46 : decode cX11_closes 46 = .ok (.aload_n 0, 1) := wn_at gdX11_closes_37 5 rfl
theorem dX11_closes_47 : decode cX11_closes 47 = .ok (.dup, 1) := wn_at gdX11_closes_37 6 rfl
theorem dX11_closes_48 : decode cX11_closes 48 = .ok (.getfield 103, 3) := wn_at gdX11_closes_37 7 rfl
theorem dX11_closes_51 : decode cX11_closes 51 = .ok (.iconst 1, 1) := wn_at gdX11_closes_37 8 rfl
theorem dX11_closes_52 : decode cX11_closes 52 = .ok (.iadd, 1) := wn_at gdX11_closes_37 9 rfl
theorem gdX11_closes_53 : ∀ e ∈ ([(53, .putfield 103, 3), (56, .aload_n 0, 1), (57, .iconst 3, 1), (58, .invokevirtual 199, 3), (61, .goto (-56), 3), (64, .return_, 1)] : List (Nat × Instr × Nat)), decode cX11_closes e.1 = .ok e.2 := wn_all _ 53 (by decide +kernel)
theorem dX11_closes_53 : decode cX11_closes 53 = .ok (.putfield 103, 3) := wn_at gdX11_closes_53 0 rfl
theorem dX11_closes_56 : decode cX11_closes 56 = .ok (.aload_n 0, 1) := wn_at gdX11_closes_53 1 rfl
theorem dX11_closes_57 : decode cX11_closes 57 = .ok (.iconst 3, 1) := wn_at gdX11_closes_53 2 rfl
theorem dX11_closes_58 : decode cX11_closes 58 = .ok (.invokevirtual 199, 3) := wn_at gdX11_closes_53 3 rfl
theorem dX11_closes_61 : decode cX11_closes 61 = .ok (.goto (-56), 3) := wn_at gdX11_closes_53 4 rfl
theorem dX11_closes_64 : decode cX11_closes 64 = .ok (.return_, 1) := wn_at gdX11_closes_53 5 rfl
theorem gdX11_tested_0 : ∀ e ∈ ([(0, .aload_n 0, 1), (1, .iconst 0, 1), (2, .putfield 160, 3), (5, .aload_n 0, 1), (6, .iconst 0, 1), (7, .putfield 157, 3), (10, .iconst 1, 1), (11, .istore_n 1, 1), (12, .iload_n 1, 1), (13, .ifCond .eq 99, 3)] : List (Nat × Instr × Nat)), decode cX11_tested e.1 = .ok e.2 := wn_all _ 0 (by decide +kernel)
theorem dX11_tested_0 : decode cX11_tested 0 = .ok (.aload_n 0, 1) := wn_at gdX11_tested_0 0 rfl
theorem dX11_tested_1 : decode cX11_tested 1 = .ok (.iconst 0, 1) := wn_at gdX11_tested_0 1 rfl
theorem dX11_tested_2 : decode cX11_tested 2 = .ok (.putfield 160, 3) := wn_at gdX11_tested_0 2 rfl
theorem dX11_tested_5 : decode cX11_tested 5 = .ok (.aload_n 0, 1) := wn_at gdX11_tested_0 3 rfl
theorem dX11_tested_6 : decode cX11_tested 6 = .ok (.iconst 0, 1) := wn_at gdX11_tested_0 4 rfl
theorem dX11_tested_7 : decode cX11_tested 7 = .ok (.putfield 157, 3) := wn_at gdX11_tested_0 5 rfl
theorem dX11_tested_10 : decode cX11_tested 10 = .ok (.iconst 1, 1) := wn_at gdX11_tested_0 6 rfl
theorem dX11_tested_11 : decode cX11_tested 11 = .ok (.istore_n 1, 1) := wn_at gdX11_tested_0 7 rfl
theorem dX11_tested_12 : decode cX11_tested 12 = .ok (.iload_n 1, 1) := wn_at gdX11_tested_0 8 rfl
theorem dX11_tested_13 : decode cX11_tested 13 = .ok (.ifCond .eq 99, 3) := wn_at gdX11_tested_0 9 rfl
theorem gdX11_tested_16 : ∀ e ∈ ([(16, .aload_n 0, 1), (17, .invokevirtual 205, 3), (20, .ifCond .ne 5, 3), (23, .iconst 0, 1), (24, .ireturn, 1), (25, .aload_n 0, 1), (26, .invokevirtual 208, 3), (29, .aload_n 0, 1), (30, .ldc2_w 211, 3), (33, .invokevirtual 114, 3)] : List (Nat × Instr × Nat)), decode cX11_tested e.1 = .ok e.2 := wn_all _ 16 (by decide +kernel)
theorem dX11_tested_16 : decode cX11_tested 16 = .ok (.aload_n 0, 1) := wn_at gdX11_tested_16 0 rfl
theorem dX11_tested_17 : decode cX11_tested 17 = .ok (.invokevirtual 205, 3) := wn_at gdX11_tested_16 1 rfl
theorem dX11_tested_20 : decode cX11_tested 20 = .ok (.ifCond .ne 5, 3) := wn_at gdX11_tested_16 2 rfl
theorem dX11_tested_23 : decode cX11_tested 23 = .ok (.iconst 0, 1) := wn_at gdX11_tested_16 3 rfl
theorem dX11_tested_24 : decode cX11_tested 24 = .ok (.ireturn, 1) := wn_at gdX11_tested_16 4 rfl
theorem dX11_tested_25 : decode cX11_tested 25 = .ok (.aload_n 0, 1) := wn_at gdX11_tested_16 5 rfl
theorem dX11_tested_26 : decode cX11_tested 26 = .ok (.invokevirtual 208, 3) := wn_at gdX11_tested_16 6 rfl
theorem dX11_tested_29 : decode cX11_tested 29 = .ok (.aload_n 0, 1) := wn_at gdX11_tested_16 7 rfl
theorem dX11_tested_30 : decode cX11_tested 30 = .ok (.ldc2_w 211, 3) := wn_at gdX11_tested_16 8 rfl
theorem dX11_tested_33 : decode cX11_tested 33 = .ok (.invokevirtual 114, 3) := wn_at gdX11_tested_16 9 rfl
theorem gdX11_tested_36 : ∀ e ∈ ([(36, .ifCond .ne 13, 3), (39, .aload_n 0, 1), (40, .ldc2_w 213, 3), (43, .invokevirtual 114, 3), (46, .ifCond .eq 7, 3), (49, .iconst 1, 1), (50, .goto 4, 3), (53, .iconst 0, 1), (54, .istore_n 1, 1), (55, .iload_n 1, 1)] : List (Nat × Instr × Nat)), decode cX11_tested e.1 = .ok e.2 := wn_all _ 36 (by decide +kernel)
theorem dX11_tested_36 : decode cX11_tested 36 = .ok (.ifCond .ne 13, 3) := wn_at gdX11_tested_36 0 rfl
theorem dX11_tested_39 : decode cX11_tested 39 = .ok (.aload_n 0, 1) := wn_at gdX11_tested_36 1 rfl
theorem dX11_tested_40 : decode cX11_tested 40 = .ok (.ldc2_w 213, 3) := wn_at gdX11_tested_36 2 rfl
theorem dX11_tested_43 : decode cX11_tested 43 = .ok (.invokevirtual 114, 3) := wn_at gdX11_tested_36 3 rfl
theorem dX11_tested_46 : decode cX11_tested 46 = .ok (.ifCond .eq 7, 3) := wn_at gdX11_tested_36 4 rfl
theorem dX11_tested_49 : decode cX11_tested 49 = .ok (.iconst 1, 1) := wn_at gdX11_tested_36 5 rfl
theorem dX11_tested_50 : decode cX11_tested 50 = .ok (.goto 4, 3) := wn_at gdX11_tested_36 6 rfl
theorem dX11_tested_53 : decode cX11_tested 53 = .ok (.iconst 0, 1) := wn_at gdX11_tested_36 7 rfl
theorem dX11_tested_54 : decode cX11_tested 54 = .ok (.istore_n 1, 1) := wn_at gdX11_tested_36 8 rfl
theorem dX11_tested_55 : decode cX11_tested 55 = .ok (.iload_n 1, 1) := wn_at gdX11_tested_36 9 rfl
theorem gdX11_tested_56 : ∀ e ∈ ([(56, .ifCond .eq (-44), 3), (59, .aload_n 0, 1), (60, .ldc2_w 211, 3), (63, .invokevirtual 114, 3), (66, .ifCond .eq 8, 3), (69, .bipush 12, 2), (71, .goto 5, 3), (74, .bipush 13, 2), (76, .istore_n 2, 1), (77, .aload_n 0, 1)] : List (Nat × Instr × Nat)), decode cX11_tested e.1 = .ok e.2 := wn_all _ 56 (by decide +kernel)
theorem dX11_tested_56 : decode cX11_tested 56 = .ok (.ifCond .eq (-44), 3) := wn_at gdX11_tested_56 0 rfl
theorem dX11_tested_59 : decode cX11_tested 59 = .ok (.aload_n 0, 1) := wn_at gdX11_tested_56 1 rfl
theorem dX11_tested_60 : decode cX11_tested 60 = .ok (.ldc2_w 211, 3) := wn_at gdX11_tested_56 2 rfl
theorem dX11_tested_63 : decode cX11_tested 63 = .ok (.invokevirtual 114, 3) := wn_at gdX11_tested_56 3 rfl
theorem dX11_tested_66 : decode cX11_tested 66 = .ok (.ifCond .eq 8, 3) := wn_at gdX11_tested_56 4 rfl
theorem dX11_tested_69 : decode cX11_tested 69 = .ok (.bipush 12, 2) := wn_at gdX11_tested_56 5 rfl
theorem dX11_tested_71 : decode cX11_tested 71 = .ok (.goto 5, 3) := wn_at gdX11_tested_56 6 rfl
theorem dX11_tested_74 : decode cX11_tested 74 = .ok (.bipush 13, 2) := wn_at gdX11_tested_56 7 rfl
theorem dX11_tested_76 : decode cX11_tested 76 = .ok (.istore_n 2, 1) := wn_at gdX11_tested_56 8 rfl
theorem dX11_tested_77 : decode cX11_tested 77 = .ok (.aload_n 0, 1) := wn_at gdX11_tested_56 9 rfl
theorem gdX11_tested_78 : ∀ e ∈ ([(78, .invokevirtual 118, 3), (81, .aload_n 0, 1), (82, .iload_n 2, 1), (83, .invokestatic 163, 3), (86, .invokevirtual 199, 3), (89, .aload_n 0, 1), (90, .getfield 35, 3), (93, .aload_n 0, 1), (94, .getfield 160, 3), (97, .iload_n 2, 1)] : List (Nat × Instr × Nat)), decode cX11_tested e.1 = .ok e.2 := wn_all _ 78 (by decide +kernel)
theorem dX11_tested_78 : decode cX11_tested 78 = .ok (.invokevirtual 118, 3) := wn_at gdX11_tested_78 0 rfl
theorem dX11_tested_81 : decode cX11_tested 81 = .ok (.aload_n 0, 1) := wn_at gdX11_tested_78 1 rfl
theorem dX11_tested_82 : decode cX11_tested 82 = .ok (.iload_n 2, 1) := wn_at gdX11_tested_78 2 rfl
theorem dX11_tested_83 : decode cX11_tested 83 = .ok (.invokestatic 163, 3) := wn_at gdX11_tested_78 3 rfl
theorem dX11_tested_86 : decode cX11_tested 86 = .ok (.invokevirtual 199, 3) := wn_at gdX11_tested_78 4 rfl
theorem dX11_tested_89 : decode cX11_tested 89 = .ok (.aload_n 0, 1) := wn_at gdX11_tested_78 5 rfl
theorem dX11_tested_90 : decode cX11_tested 90 = .ok (.getfield 35, 3) := wn_at gdX11_tested_78 6 rfl
theorem dX11_tested_93 : decode cX11_tested 93 = .ok (.aload_n 0, 1) := wn_at gdX11_tested_78 7 rfl
theorem dX11_tested_94 : decode cX11_tested 94 = .ok (.getfield 160, 3) := wn_at gdX11_tested_78 8 rfl
theorem dX11_tested_97 : decode cX11_tested 97 = .ok (.iload_n 2, 1) := wn_at gdX11_tested_78 9 rfl
theorem gdX11_tested_98 : ∀ e ∈ ([(98, .iastore, 1), (99, .aload_n 0, 1), (100, .dup, 1), (101, .getfield 160, 3), (104, .iconst 1, 1), (105, .iadd, 1), (106, .putfield 160, 3), (109, .goto (-97), 3), (112, .aload_n 0, 1), (113, .invokevirtual 202, 3)] : List (Nat × Instr × Nat)), decode cX11_tested e.1 = .ok e.2 := wn_all _ 98 (by decide +kernel)
theorem dX11_tested_98 : decode cX11_tested 98 = .ok (.iastore, 1) := wn_at gdX11_tested_98 0 rfl
theorem dX11_tested_99 : decode cX11_tested 99 = .ok (.aload_n 0, 1) := wn_at gdX11_tested_98 1 rfl
theorem dX11_tested_100 : decode cX11_tested 100 = .ok (.dup, 1) := wn_at gdX11_tested_98 2 rfl
theorem dX11_tested_101 : decode cX11_tested 101 = .ok (.getfield 160, 3) := wn_at gdX11_tested_98 3 rfl
theorem dX11_tested_104 : decode cX11_tested 104 = .ok (.iconst 1, 1) := wn_at gdX11_tested_98 4 rfl
theorem dX11_tested_105 : decode cX11_tested 105 = .ok (.iadd, 1) := wn_at gdX11_tested_98 5 rfl
theorem dX11_tested_106 : decode cX11_tested 106 = .ok (.putfield 160, 3) := wn_at gdX11_tested_98 6 rfl
theorem dX11_tested_109 : decode cX11_tested 109 = .ok (.goto (-97), 3) := wn_at gdX11_tested_98 7 rfl
theorem dX11_tested_112 : decode cX11_tested 112 = .ok (.aload_n 0, 1) := wn_at gdX11_tested_98 8 rfl
theorem dX11_tested_113 : decode cX11_tested 113 = .ok (.invokevirtual 202, 3) := wn_at gdX11_tested_98 9 rfl
theorem gdX11_tested_116 : ∀ e ∈ ([(116, .ifCond .eq 18, 3), (119, .aload_n 0, 1), (120, .invokevirtual 106, 3), (123, .pop, 1), (124, .aload_n 0, 1), (125, .iconst 0, 1), (126, .aload_n 0, 1), (127, .getfield 103, 3), (130, .invokevirtual 124, 3), (133, .ireturn, 1)] : List (Nat × Instr × Nat)), decode cX11_tested e.1 = .ok e.2 := wn_all _ 116 (by decide +kernel)
theorem dX11_tested_116 : decode cX11_tested 116 = .ok (.ifCond .eq 18, 3) := wn_at gdX11_tested_116 0 rfl
theorem dX11_tested_119 : decode cX11_tested 119 = .ok (.aload_n 0, 1) := wn_at gdX11_tested_116 1 rfl
theorem dX11_tested_120 : decode cX11_tested 120 = .ok (.invokevirtual 106, 3) := wn_at gdX11_tested_116 2 rfl
theorem dX11_tested_123 : decode cX11_tested 123 = .ok (.pop, 1) := wn_at gdX11_tested_116 3 rfl
theorem dX11_tested_124 : decode cX11_tested 124 = .ok (.aload_n 0, 1) := wn_at gdX11_tested_116 4 rfl
theorem dX11_tested_125 : decode cX11_tested 125 = .ok (.iconst 0, 1) := wn_at gdX11_tested_116 5 rfl
theorem dX11_tested_126 : decode cX11_tested 126 = .ok (.aload_n 0, 1) := wn_at gdX11_tested_116 6 rfl
theorem dX11_tested_127 : decode cX11_tested 127 = .ok (.getfield 103, 3) := wn_at gdX11_tested_116 7 rfl
theorem dX11_tested_130 : decode cX11_tested 130 = .ok (.invokevirtual 124, 3) := wn_at gdX11_tested_116 8 rfl
theorem dX11_tested_133 : decode cX11_tested 133 = .ok (.ireturn, 1) := wn_at gdX11_tested_116 9 rfl
theorem gdX11_tested_134 : ∀ e ∈ ([(134, .aload_n 0, 1), (135, .iconst 1, 1), (136, .invokevirtual 199, 3), (139, .iconst 1, 1), (140, .ireturn, 1)] : List (Nat × Instr × Nat)), decode cX11_tested e.1 = .ok e.2 := wn_all _ 134 (by decide +kernel)
theorem dX11_tested_134 : decode cX11_tested 134 = .ok (.aload_n 0, 1) := wn_at gdX11_tested_134 0 rfl
theorem dX11_tested_135 : decode cX11_tested 135 = .ok (.iconst 1, 1) := wn_at gdX11_tested_134 1 rfl
theorem dX11_tested_136 : decode cX11_tested 136 = .ok (.invokevirtual 199, 3) := wn_at gdX11_tested_134 2 rfl
theorem dX11_tested_139 : decode cX11_tested 139 = .ok (.iconst 1, 1) := wn_at gdX11_tested_134 3 rfl
theorem dX11_tested_140 : decode cX11_tested 140 = .ok (.ireturn, 1) := wn_at gdX11_tested_134 4 rfl
theorem gdX11_isToHere_0 : ∀ e ∈ ([(0, .aload_n 0, 1), (1, .invokevirtual 118, 3), (4, .aload_n 0, 1), (5, .iconst 0, 1), (6, .bipush 9, 2), (8, .invokevirtual 172, 3), (11, .ifCond .ne 5, 3), (14, .iconst 0, 1), (15, .ireturn, 1), (16, .bipush 36, 2)] : List (Nat × Instr × Nat)), decode cX11_isToHere e.1 = .ok e.2 := wn_all _ 0 (by decide +kernel)
theorem dX11_isToHere_0 : decode cX11_isToHere 0 = .ok (.aload_n 0, 1) := wn_at gdX11_isToHere_0 0 rfl
theorem dX11_isToHere_1 : decode cX11_isToHere 1 = .ok (.invokevirtual 118, 3) := wn_at gdX11_isToHere_0 1 rfl
theorem dX11_isToHere_4 : decode cX11_isToHere 4 = .ok (.aload_n 0, 1) := wn_at gdX11_isToHere_0 2 rfl
theorem dX11_isToHere_5 : decode cX11_isToHere 5 = .ok (.iconst 0, 1) := wn_at gdX11_isToHere_0 3 rfl
theorem dX11_isToHere_6 : decode cX11_isToHere 6 = .ok (.bipush 9, 2) := wn_at gdX11_isToHere_0 4 rfl
theorem dX11_isToHere_8 : decode cX11_isToHere 8 = .ok (.invokevirtual 172, 3) := wn_at gdX11_isToHere_0 5 rfl
theorem dX11_isToHere_11 : decode cX11_isToHere 11 = .ok (.ifCond .ne 5, 3) := wn_at gdX11_isToHere_0 6 rfl
theorem dX11_isToHere_14 : decode cX11_isToHere 14 = .ok (.iconst 0, 1) := wn_at gdX11_isToHere_0 7 rfl
theorem dX11_isToHere_15 : decode cX11_isToHere 15 = .ok (.ireturn, 1) := wn_at gdX11_isToHere_0 8 rfl
theorem dX11_isToHere_16 : decode cX11_isToHere 16 = .ok (.bipush 36, 2) := wn_at gdX11_isToHere_0 9 rfl
theorem gdX11_isToHere_18 : ∀ e ∈ ([(18, .aload_n 0, 1), (19, .getfield 151, 3), (22, .imul, 1), (23, .iconst 3, 1), (24, .aload_n 0, 1), (25, .getfield 23, 3), (28, .aload_n 0, 1), (29, .getfield 151, 3), (32, .iaload, 1), (33, .imul, 1)] : List (Nat × Instr × Nat)), decode cX11_isToHere e.1 = .ok e.2 := wn_all _ 18 (by decide +kernel)
theorem dX11_isToHere_18 : decode cX11_isToHere 18 = .ok (.aload_n 0, 1) := wn_at gdX11_isToHere_18 0 rfl
theorem dX11_isToHere_19 : decode cX11_isToHere 19 = .ok (.getfield 151, 3) := wn_at gdX11_isToHere_18 1 rfl
theorem dX11_isToHere_22 : decode cX11_isToHere 22 = .ok (.imul, 1) := wn_at gdX11_isToHere_18 2 rfl
theorem dX11_isToHere_23 : decode cX11_isToHere 23 = .ok (.iconst 3, 1) := wn_at gdX11_isToHere_18 3 rfl
theorem dX11_isToHere_24 : decode cX11_isToHere 24 = .ok (.aload_n 0, 1) := wn_at gdX11_isToHere_18 4 rfl
theorem dX11_isToHere_25 : decode cX11_isToHere 25 = .ok (.getfield 23, 3) := wn_at gdX11_isToHere_18 5 rfl
theorem dX11_isToHere_28 : decode cX11_isToHere 28 = .ok (.aload_n 0, 1) := wn_at gdX11_isToHere_18 6 rfl
theorem dX11_isToHere_29 : decode cX11_isToHere 29 = .ok (.getfield 151, 3) := wn_at gdX11_isToHere_18 7 rfl
theorem dX11_isToHere_32 : decode cX11_isToHere 32 = .ok (.iaload, 1) := wn_at gdX11_isToHere_18 8 rfl
theorem dX11_isToHere_33 : decode cX11_isToHere 33 = .ok (.imul, 1) := wn_at gdX11_isToHere_18 9 rfl
theorem gdX11_isToHere_34 : ∀ e ∈ ([(34, .iadd, 1), (35, .istore_n 1, 1), (36, .aload_n 0, 1), (37, .getfield 20, 3), (40, .iload_n 1, 1), (41, .aload_n 0, 1), (42, .getfield 128, 3), (45, .iastore, 1), (46, .aload_n 0, 1), (47, .getfield 20, 3)] : List (Nat × Instr × Nat)), decode cX11_isToHere e.1 = .ok e.2 := wn_all _ 34 (by decide +kernel)
theorem dX11_isToHere_34 : decode cX11_isToHere 34 = .ok (.iadd, 1) := wn_at gdX11_isToHere_34 0 rfl
theorem dX11_isToHere_35 : decode cX11_isToHere 35 = .ok (.istore_n 1, 1) := wn_at gdX11_isToHere_34 1 rfl
theorem dX11_isToHere_36 : decode cX11_isToHere 36 = .ok (.aload_n 0, 1) := wn_at gdX11_isToHere_34 2 rfl
theorem dX11_isToHere_37 : decode cX11_isToHere 37 = .ok (.getfield 20, 3) := wn_at gdX11_isToHere_34 3 rfl
theorem dX11_isToHere_40 : decode cX11_isToHere 40 = .ok (.iload_n 1, 1) := wn_at gdX11_isToHere_34 4 rfl
theorem dX11_isToHere_41 : decode cX11_isToHere 41 = .ok (.aload_n 0, 1) := wn_at gdX11_isToHere_34 5 rfl
theorem dX11_isToHere_42 : decode cX11_isToHere 42 = .ok (.getfield 128, 3) := wn_at gdX11_isToHere_34 6 rfl
theorem dX11_isToHere_45 : decode cX11_isToHere 45 = .ok (.iastore, 1) := wn_at gdX11_isToHere_34 7 rfl
theorem dX11_isToHere_46 : decode cX11_isToHere 46 = .ok (.aload_n 0, 1) := wn_at gdX11_isToHere_34 8 rfl
theorem dX11_isToHere_47 : decode cX11_isToHere 47 = .ok (.getfield 20, 3) := wn_at gdX11_isToHere_34 9 rfl
theorem gdX11_isToHere_50 : ∀ e ∈ ([(50, .iload_n 1, 1), (51, .iconst 1, 1), (52, .iadd, 1), (53, .iconst (-1), 1), (54, .iastore, 1), (55, .aload_n 0, 1), (56, .ldc2_w 215, 3), (59, .invokevirtual 217, 3), (62, .ifCond .eq 29, 3), (65, .aload_n 0, 1)] : List (Nat × Instr × Nat)), decode cX11_isToHere e.1 = .ok e.2 := wn_all _ 50 (by decide +kernel)
theorem dX11_isToHere_50 : decode cX11_isToHere 50 = .ok (.iload_n 1, 1) := wn_at gdX11_isToHere_50 0 rfl
theorem dX11_isToHere_51 : decode cX11_isToHere 51 = .ok (.iconst 1, 1) := wn_at gdX11_isToHere_50 1 rfl
theorem dX11_isToHere_52 : decode cX11_isToHere 52 = .ok (.iadd, 1) := wn_at gdX11_isToHere_50 2 rfl
theorem dX11_isToHere_53 : decode cX11_isToHere 53 = .ok (.iconst (-1), 1) := wn_at gdX11_isToHere_50 3 rfl
theorem dX11_isToHere_54 : decode cX11_isToHere 54 = .ok (.iastore, 1) := wn_at gdX11_isToHere_50 4 rfl
theorem dX11_isToHere_55 : decode cX11_isToHere 55 = .ok (.aload_n 0, 1) := wn_at gdX11_isToHere_50 5 rfl
theorem dX11_isToHere_56 : decode cX11_isToHere 56 = .ok (.ldc2_w 215, 3) := wn_at gdX11_isToHere_50 6 rfl
theorem dX11_isToHere_59 : decode cX11_isToHere 59 = .ok (.invokevirtual 217, 3) := wn_at gdX11_isToHere_50 7 rfl
theorem dX11_isToHere_62 : decode cX11_isToHere 62 = .ok (.ifCond .eq 29, 3) := wn_at gdX11_isToHere_50 8 rfl
theorem dX11_isToHere_65 : decode cX11_isToHere 65 = .ok (.aload_n 0, 1) := wn_at gdX11_isToHere_50 9 rfl
theorem gdX11_isToHere_66 : ∀ e ∈ ([(66, .getfield 20, 3), (69, .iload_n 1, 1), (70, .iconst 1, 1), (71, .iadd, 1), (72, .aload_n 0, 1), (73, .getfield 17, 3), (76, .aload_n 0, 1), (77, .getfield 151, 3), (80, .iaload, 1), (81, .iastore, 1)] : List (Nat × Instr × Nat)), decode cX11_isToHere e.1 = .ok e.2 := wn_all _ 66 (by decide +kernel)
theorem dX11_isToHere_66 : decode cX11_isToHere 66 = .ok (.getfield 20, 3) := wn_at gdX11_isToHere_66 0 rfl
theorem dX11_isToHere_69 : decode cX11_isToHere 69 = .ok (.iload_n 1, 1) := wn_at gdX11_isToHere_66 1 rfl
theorem dX11_isToHere_70 : decode cX11_isToHere 70 = .ok (.iconst 1, 1) := wn_at gdX11_isToHere_66 2 rfl
theorem dX11_isToHere_71 : decode cX11_isToHere 71 = .ok (.iadd, 1) := wn_at gdX11_isToHere_66 3 rfl
theorem dX11_isToHere_72 : decode cX11_isToHere 72 = .ok (.aload_n 0, 1) := wn_at gdX11_isToHere_66 4 rfl
theorem dX11_isToHere_73 : decode cX11_isToHere 73 = .ok (.getfield 17, 3) := wn_at gdX11_isToHere_66 5 rfl
theorem dX11_isToHere_76 : decode cX11_isToHere 76 = .ok (.aload_n 0, 1) := wn_at gdX11_isToHere_66 6 rfl
theorem dX11_isToHere_77 : decode cX11_isToHere 77 = .ok (.getfield 151, 3) := wn_at gdX11_isToHere_66 7 rfl
theorem dX11_isToHere_80 : decode cX11_isToHere 80 = .ok (.iaload, 1) := wn_at gdX11_isToHere_66 8 rfl
theorem dX11_isToHere_81 : decode cX11_isToHere 81 = .ok (.iastore, 1) := wn_at gdX11_isToHere_66 9 rfl
theorem gdX11_isToHere_82 : ∀ e ∈ ([(82, .aload_n 0, 1), (83, .invokevirtual 220, 3), (86, .ifCond .ne 5, 3), (89, .iconst 0, 1), (90, .ireturn, 1), (91, .aload_n 0, 1), (92, .getfield 20, 3), (95, .iload_n 1, 1), (96, .iconst 2, 1), (97, .iadd, 1)] : List (Nat × Instr × Nat)), decode cX11_isToHere e.1 = .ok e.2 := wn_all _ 82 (by decide +kernel)
theorem dX11_isToHere_82 : decode cX11_isToHere 82 = .ok (.aload_n 0, 1) := wn_at gdX11_isToHere_82 0 rfl
theorem dX11_isToHere_83 : decode cX11_isToHere 83 = .ok (.invokevirtual 220, 3) := wn_at gdX11_isToHere_82 1 rfl
theorem dX11_isToHere_86 : decode cX11_isToHere 86 = .ok (.ifCond .ne 5, 3) := wn_at gdX11_isToHere_82 2 rfl
theorem dX11_isToHere_89 : decode cX11_isToHere 89 = .ok (.iconst 0, 1) := wn_at gdX11_isToHere_82 3 rfl
theorem dX11_isToHere_90 : decode cX11_isToHere 90 = .ok (.ireturn, 1) := wn_at gdX11_isToHere_82 4 rfl
theorem dX11_isToHere_91 : decode cX11_isToHere 91 = .ok (.aload_n 0, 1) := wn_at gdX11_isToHere_82 5 rfl
theorem dX11_isToHere_92 : decode cX11_isToHere 92 = .ok (.getfield 20, 3) := wn_at gdX11_isToHere_82 6 rfl
theorem dX11_isToHere_95 : decode cX11_isToHere 95 = .ok (.iload_n 1, 1) := wn_at gdX11_isToHere_82 7 rfl
theorem dX11_isToHere_96 : decode cX11_isToHere 96 = .ok (.iconst 2, 1) := wn_at gdX11_isToHere_82 8 rfl
theorem dX11_isToHere_97 : decode cX11_isToHere 97 = .ok (.iadd, 1) := wn_at gdX11_isToHere_82 9 rfl
theorem gdX11_isToHere_98 : ∀ e ∈ ([(98, .aload_n 0, 1), (99, .getfield 17, 3), (102, .aload_n 0, 1), (103, .getfield 151, 3), (106, .iaload, 1), (107, .iastore, 1), (108, .aload_n 0, 1), (109, .getfield 23, 3), (112, .aload_n 0, 1), (113, .getfield 151, 3)] : List (Nat × Instr × Nat)), decode cX11_isToHere e.1 = .ok e.2 := wn_all _ 98 (by decide +kernel)
theorem dX11_isToHere_98 : decode cX11_isToHere 98 = .ok (.aload_n 0, 1) := wn_at gdX11_isToHere_98 0 rfl
theorem dX11_isToHere_99 : decode cX11_isToHere 99 = .ok (.getfield 17, 3) := wn_at gdX11_isToHere_98 1 rfl
theorem dX11_isToHere_102 : decode cX11_isToHere 102 = .ok (.aload_n 0, 1) := wn_at gdX11_isToHere_98 2 rfl
theorem dX11_isToHere_103 : decode cX11_isToHere 103 = .ok (.getfield 151, 3) := wn_at gdX11_isToHere_98 3 rfl
theorem dX11_isToHere_106 : decode cX11_isToHere 106 = .ok (.iaload, 1) := wn_at gdX11_isToHere_98 4 rfl
theorem dX11_isToHere_107 : decode cX11_isToHere 107 = .ok (.iastore, 1) := wn_at gdX11_isToHere_98 5 rfl
theorem dX11_isToHere_108 : decode cX11_isToHere 108 = .ok (.aload_n 0, 1) := wn_at gdX11_isToHere_98 6 rfl
theorem dX11_isToHere_109 : decode cX11_isToHere 109 = .ok (.getfield 23, 3) := wn_at gdX11_isToHere_98 7 rfl
theorem dX11_isToHere_112 : decode cX11_isToHere 112 = .ok (.aload_n 0, 1) := wn_at gdX11_isToHere_98 8 rfl
theorem dX11_isToHere_113 : decode cX11_isToHere 113 = .ok (.getfield 151, 3) := wn_at gdX11_isToHere_98 9 rfl
theorem gdX11_isToHere_116 : ∀ e ∈ ([(116, .dup2, 1), (117, .iaload, 1), (118, .iconst 1, 1), (119, .iadd, 1), (120, .iastore, 1), (121, .iconst 1, 1), (122, .ireturn, 1)] : List (Nat × Instr × Nat)), decode cX11_isToHere e.1 = .ok e.2 := wn_all _ 116 (by decide +kernel)
theorem dX11_isToHere_116 : decode cX11_isToHere 116 = .ok (.dup2, 1) := wn_at gdX11_isToHere_116 0 rfl
theorem dX11_isToHere_117 : decode cX11_isToHere 117 = .ok (.iaload, 1) := wn_at gdX11_isToHere_116 1 rfl
theorem dX11_isToHere_118 : decode cX11_isToHere 118 = .ok (.iconst 1, 1) := wn_at gdX11_isToHere_116 2 rfl
theorem dX11_isToHere_119 : decode cX11_isToHere 119 = .ok (.iadd, 1) := wn_at gdX11_isToHere_116 3 rfl
theorem dX11_isToHere_120 : decode cX11_isToHere 120 = .ok (.iastore, 1) := wn_at gdX11_isToHere_116 4 rfl
theorem dX11_isToHere_121 : decode cX11_isToHere 121 = .ok (.iconst 1, 1) := wn_at gdX11_isToHere_116 5 rfl
theorem dX11_isToHere_122 : decode cX11_isToHere 122 = .ok (.ireturn, 1) := wn_at gdX11_isToHere_116 6 rfl
theorem gdX11_isFloorHere_0 : ∀ e ∈ ([(0, .aload_n 0, 1), (1, .getfield 223, 3), (4, .bipush 10, 2), (6, .if_icmp .ne 10, 3), (9, .aload_n 0, 1), (10, .iconst 4, 1), (11, .iload_n 1, 1), (12, .invokevirtual 124, 3), (15, .ireturn, 1), (16, .aload_n 0, 1)] : List (Nat × Instr × Nat)), decode cX11_isFloorHere e.1 = .ok e.2 := wn_all _ 0 (by decide +kernel)
theorem dX11_isFloorHere_0 : decode cX11_isFloorHere 0 = .ok (.aload_n 0, 1) := wn_at gdX11_isFloorHere_0 0 rfl
theorem dX11_isFloorHere_1 : decode cX11_isFloorHere 1 = .ok (.getfield 223, 3) := wn_at gdX11_isFloorHere_0 1 rfl
theorem dX11_isFloorHere_4 : decode cX11_isFloorHere 4 = .ok (.bipush 10, 2) := wn_at gdX11_isFloorHere_0 2 rfl
theorem dX11_isFloorHere_6 : decode cX11_isFloorHere 6 = .ok (.if_icmp .ne 10, 3) := wn_at gdX11_isFloorHere_0 3 rfl
theorem dX11_isFloorHere_9 : decode cX11_isFloorHere 9 = .ok (.aload_n 0, 1) := wn_at gdX11_isFloorHere_0 4 rfl
theorem dX11_isFloorHere_10 : decode cX11_isFloorHere 10 = .ok (.iconst 4, 1) := wn_at gdX11_isFloorHere_0 5 rfl
theorem dX11_isFloorHere_11 : decode cX11_isFloorHere 11 = .ok (.iload_n 1, 1) := wn_at gdX11_isFloorHere_0 6 rfl
theorem dX11_isFloorHere_12 : decode cX11_isFloorHere 12 = .ok (.invokevirtual 124, 3) := wn_at gdX11_isFloorHere_0 7 rfl
theorem dX11_isFloorHere_15 : decode cX11_isFloorHere 15 = .ok (.ireturn, 1) := wn_at gdX11_isFloorHere_0 8 rfl
theorem dX11_isFloorHere_16 : decode cX11_isFloorHere 16 = .ok (.aload_n 0, 1) := wn_at gdX11_isFloorHere_0 9 rfl
theorem gdX11_isFloorHere_17 : ∀ e ∈ ([(17, .invokevirtual 118, 3), (20, .iconst 0, 1), (21, .istore_n 2, 1), (22, .iload_n 2, 1), (23, .iconst 2, 1), (24, .if_icmp .ge 38, 3), (27, .aload_n 0, 1), (28, .iconst 1, 1), (29, .bipush 20, 2), (31, .invokevirtual 172, 3)] : List (Nat × Instr × Nat)), decode cX11_isFloorHere e.1 = .ok e.2 := wn_all _ 17 (by decide +kernel)
theorem dX11_isFloorHere_17 : decode cX11_isFloorHere 17 = .ok (.invokevirtual 118, 3) := wn_at gdX11_isFloorHere_17 0 rfl
theorem dX11_isFloorHere_20 : decode cX11_isFloorHere 20 = .ok (.iconst 0, 1) := wn_at gdX11_isFloorHere_17 1 rfl
theorem dX11_isFloorHere_21 : decode cX11_isFloorHere 21 = .ok (.istore_n 2, 1) := wn_at gdX11_isFloorHere_17 2 rfl
theorem dX11_isFloorHere_22 : decode cX11_isFloorHere 22 = .ok (.iload_n 2, 1) := wn_at gdX11_isFloorHere_17 3 rfl
theorem dX11_isFloorHere_23 : decode cX11_isFloorHere 23 = .ok (.iconst 2, 1) := wn_at gdX11_isFloorHere_17 4 rfl
theorem dX11_isFloorHere_24 : decode cX11_isFloorHere 24 = .ok (.if_icmp .ge 38, 3) := wn_at gdX11_isFloorHere_17 5 rfl
theorem dX11_isFloorHere_27 : decode cX11_isFloorHere 27 = .ok (.aload_n 0, 1) := wn_at gdX11_isFloorHere_17 6 rfl
theorem dX11_isFloorHere_28 : decode cX11_isFloorHere 28 = .ok (.iconst 1, 1) := wn_at gdX11_isFloorHere_17 7 rfl
theorem dX11_isFloorHere_29 : decode cX11_isFloorHere 29 = .ok (.bipush 20, 2) := wn_at gdX11_isFloorHere_17 8 rfl
theorem dX11_isFloorHere_31 : decode cX11_isFloorHere 31 = .ok (.invokevirtual 172, 3) := wn_at gdX11_isFloorHere_17 9 rfl
theorem gdX11_isFloorHere_34 : ∀ e ∈ ([(34, .ifCond .ne 5, 3), (37, .iconst 0, 1), (38, .ireturn, 1), (39, .aload_n 0, 1), (40, .getfield 26, 3), (43, .iconst 2, 1), (44, .aload_n 0, 1), (45, .getfield 223, 3), (48, .imul, 1), (49, .iload_n 2, 1)] : List (Nat × Instr × Nat)), decode cX11_isFloorHere e.1 = .ok e.2 := wn_all _ 34 (by decide +kernel)
theorem dX11_isFloorHere_34 : decode cX11_isFloorHere 34 = .ok (.ifCond .ne 5, 3) := wn_at gdX11_isFloorHere_34 0 rfl
theorem dX11_isFloorHere_37 : decode cX11_isFloorHere 37 = .ok (.iconst 0, 1) := wn_at gdX11_isFloorHere_34 1 rfl
theorem dX11_isFloorHere_38 : decode cX11_isFloorHere 38 = .ok (.ireturn, 1) := wn_at gdX11_isFloorHere_34 2 rfl
theorem dX11_isFloorHere_39 : decode cX11_isFloorHere 39 = .ok (.aload_n 0, 1) := wn_at gdX11_isFloorHere_34 3 rfl
theorem dX11_isFloorHere_40 : decode cX11_isFloorHere 40 = .ok (.getfield 26, 3) := wn_at gdX11_isFloorHere_34 4 rfl
theorem dX11_isFloorHere_43 : decode cX11_isFloorHere 43 = .ok (.iconst 2, 1) := wn_at gdX11_isFloorHere_34 5 rfl
theorem dX11_isFloorHere_44 : decode cX11_isFloorHere 44 = .ok (.aload_n 0, 1) := wn_at gdX11_isFloorHere_34 6 rfl
theorem dX11_isFloorHere_45 : decode cX11_isFloorHere 45 = .ok (.getfield 223, 3) := wn_at gdX11_isFloorHere_34 7 rfl
theorem dX11_isFloorHere_48 : decode cX11_isFloorHere 48 = .ok (.imul, 1) := wn_at gdX11_isFloorHere_34 8 rfl
theorem dX11_isFloorHere_49 : decode cX11_isFloorHere 49 = .ok (.iload_n 2, 1) := wn_at gdX11_isFloorHere_34 9 rfl
theorem gdX11_isFloorHere_50 : ∀ e ∈ ([(50, .iadd, 1), (51, .aload_n 0, 1), (52, .getfield 128, 3), (55, .iastore, 1), (56, .iinc 2 1, 3), (59, .goto (-37), 3), (62, .aload_n 0, 1), (63, .dup, 1), (64, .getfield 223, 3), (67, .iconst 1, 1)] : List (Nat × Instr × Nat)), decode cX11_isFloorHere e.1 = .ok e.2 := wn_all _ 50 (by decide +kernel)
theorem dX11_isFloorHere_50 : decode cX11_isFloorHere 50 = .ok (.iadd, 1) := wn_at gdX11_isFloorHere_50 0 rfl
theorem dX11_isFloorHere_51 : decode cX11_isFloorHere 51 = .ok (.aload_n 0, 1) := wn_at gdX11_isFloorHere_50 1 rfl
theorem dX11_isFloorHere_52 : decode cX11_isFloorHere 52 = .ok (.getfield 128, 3) := wn_at gdX11_isFloorHere_50 2 rfl
theorem dX11_isFloorHere_55 : decode cX11_isFloorHere 55 = .ok (.iastore, 1) := wn_at gdX11_isFloorHere_50 3 rfl
theorem dX11_isFloorHere_56 : decode cX11_isFloorHere 56 = .ok (.iinc 2 1, 3) := wn_at gdX11_isFloorHere_50 4 rfl
theorem dX11_isFloorHere_59 : decode cX11_isFloorHere 59 = .ok (.goto (-37), 3) := wn_at gdX11_isFloorHere_50 5 rfl
theorem dX11_isFloorHere_62 : decode cX11_isFloorHere 62 = .ok (.aload_n 0, 1) := wn_at gdX11_isFloorHere_50 6 rfl
theorem dX11_isFloorHere_63 : decode cX11_isFloorHere 63 = .ok (.dup, 1) := wn_at gdX11_isFloorHere_50 7 rfl
theorem dX11_isFloorHere_64 : decode cX11_isFloorHere 64 = .ok (.getfield 223, 3) := wn_at gdX11_isFloorHere_50 8 rfl
theorem dX11_isFloorHere_67 : decode cX11_isFloorHere 67 = .ok (.iconst 1, 1) := wn_at gdX11_isFloorHere_50 9 rfl
theorem gdX11_isFloorHere_68 : ∀ e ∈ ([(68, .iadd, 1), (69, .putfield 223, 3), (72, .iconst 1, 1), (73, .ireturn, 1)] : List (Nat × Instr × Nat)), decode cX11_isFloorHere e.1 = .ok e.2 := wn_all _ 68 (by decide +kernel)
theorem dX11_isFloorHere_68 : decode cX11_isFloorHere 68 = .ok (.iadd, 1) := wn_at gdX11_isFloorHere_68 0 rfl
theorem dX11_isFloorHere_69 : decode cX11_isFloorHere 69 = .ok (.putfield 223, 3) := wn_at gdX11_isFloorHere_68 1 rfl
theorem dX11_isFloorHere_72 : decode cX11_isFloorHere 72 = .ok (.iconst 1, 1) := wn_at gdX11_isFloorHere_68 2 rfl
theorem dX11_isFloorHere_73 : decode cX11_isFloorHere 73 = .ok (.ireturn, 1) := wn_at gdX11_isFloorHere_68 3 rfl
theorem gdX11_isStairHere_0 : ∀ e ∈ ([(0, .aload_n 0, 1), (1, .getfield 226, 3), (4, .bipush 12, 2), (6, .if_icmp .ne 10, 3), (9, .aload_n 0, 1), (10, .iconst 4, 1), (11, .iload_n 1, 1), (12, .invokevirtual 124, 3), (15, .ireturn, 1), (16, .aload_n 0, 1)] : List (Nat × Instr × Nat)), decode cX11_isStairHere e.1 = .ok e.2 := wn_all _ 0 (by decide +kernel)
theorem dX11_isStairHere_0 : decode cX11_isStairHere 0 = .ok (.aload_n 0, 1) := wn_at gdX11_isStairHere_0 0 rfl
theorem dX11_isStairHere_1 : decode cX11_isStairHere 1 = .ok (.getfield 226, 3) := wn_at gdX11_isStairHere_0 1 rfl
theorem dX11_isStairHere_4 : decode cX11_isStairHere 4 = .ok (.bipush 12, 2) := wn_at gdX11_isStairHere_0 2 rfl
theorem dX11_isStairHere_6 : decode cX11_isStairHere 6 = .ok (.if_icmp .ne 10, 3) := wn_at gdX11_isStairHere_0 3 rfl
theorem dX11_isStairHere_9 : decode cX11_isStairHere 9 = .ok (.aload_n 0, 1) := wn_at gdX11_isStairHere_0 4 rfl
theorem dX11_isStairHere_10 : decode cX11_isStairHere 10 = .ok (.iconst 4, 1) := wn_at gdX11_isStairHere_0 5 rfl
theorem dX11_isStairHere_11 : decode cX11_isStairHere 11 = .ok (.iload_n 1, 1) := wn_at gdX11_isStairHere_0 6 rfl
theorem dX11_isStairHere_12 : decode cX11_isStairHere 12 = .ok (.invokevirtual 124, 3) := wn_at gdX11_isStairHere_0 7 rfl
theorem dX11_isStairHere_15 : decode cX11_isStairHere 15 = .ok (.ireturn, 1) := wn_at gdX11_isStairHere_0 8 rfl
theorem dX11_isStairHere_16 : decode cX11_isStairHere 16 = .ok (.aload_n 0, 1) := wn_at gdX11_isStairHere_0 9 rfl
theorem gdX11_isStairHere_17 : ∀ e ∈ ([(17, .invokevirtual 118, 3), (20, .iconst 5, 1), (21, .aload_n 0, 1), (22, .getfield 226, 3), (25, .imul, 1), (26, .istore_n 2, 1), (27, .aload_n 0, 1), (28, .iconst 0, 1), (29, .aload_n 0, 1), (30, .getfield 223, 3)] : List (Nat × Instr × Nat)), decode cX11_isStairHere e.1 = .ok e.2 := wn_all _ 17 (by decide +kernel)
theorem dX11_isStairHere_17 : decode cX11_isStairHere 17 = .ok (.invokevirtual 118, 3) := wn_at gdX11_isStairHere_17 0 rfl
theorem dX11_isStairHere_20 : decode cX11_isStairHere 20 = .ok (.iconst 5, 1) := wn_at gdX11_isStairHere_17 1 rfl
theorem dX11_isStairHere_21 : decode cX11_isStairHere 21 = .ok (.aload_n 0, 1) := wn_at gdX11_isStairHere_17 2 rfl
theorem dX11_isStairHere_22 : decode cX11_isStairHere 22 = .ok (.getfield 226, 3) := wn_at gdX11_isStairHere_17 3 rfl
theorem dX11_isStairHere_25 : decode cX11_isStairHere 25 = .ok (.imul, 1) := wn_at gdX11_isStairHere_17 4 rfl
theorem dX11_isStairHere_26 : decode cX11_isStairHere 26 = .ok (.istore_n 2, 1) := wn_at gdX11_isStairHere_17 5 rfl
theorem dX11_isStairHere_27 : decode cX11_isStairHere 27 = .ok (.aload_n 0, 1) := wn_at gdX11_isStairHere_17 6 rfl
theorem dX11_isStairHere_28 : decode cX11_isStairHere 28 = .ok (.iconst 0, 1) := wn_at gdX11_isStairHere_17 7 rfl
theorem dX11_isStairHere_29 : decode cX11_isStairHere 29 = .ok (.aload_n 0, 1) := wn_at gdX11_isStairHere_17 8 rfl
theorem dX11_isStairHere_30 : decode cX11_isStairHere 30 = .ok (.getfield 223, 3) := wn_at gdX11_isStairHere_17 9 rfl
theorem gdX11_isStairHere_33 : ∀ e ∈ ([(33, .iconst 1, 1), (34, .isub, 1), (35, .invokevirtual 172, 3), (38, .ifCond .ne 5, 3), (41, .iconst 0, 1), (42, .ireturn, 1), (43, .aload_n 0, 1), (44, .getfield 29, 3), (47, .iload_n 2, 1), (48, .aload_n 0, 1)] : List (Nat × Instr × Nat)), decode cX11_isStairHere e.1 = .ok e.2 := wn_all _ 33 (by decide +kernel)
theorem dX11_isStairHere_33 : decode cX11_isStairHere 33 = .ok (.iconst 1, 1) := wn_at gdX11_isStairHere_33 0 rfl
theorem dX11_isStairHere_34 : decode cX11_isStairHere 34 = .ok (.isub, 1) := wn_at gdX11_isStairHere_33 1 rfl
theorem dX11_isStairHere_35 : decode cX11_isStairHere 35 = .ok (.invokevirtual 172, 3) := wn_at gdX11_isStairHere_33 2 rfl
theorem dX11_isStairHere_38 : decode cX11_isStairHere 38 = .ok (.ifCond .ne 5, 3) := wn_at gdX11_isStairHere_33 3 rfl
theorem dX11_isStairHere_41 : decode cX11_isStairHere 41 = .ok (.iconst 0, 1) := wn_at gdX11_isStairHere_33 4 rfl
theorem dX11_isStairHere_42 : decode cX11_isStairHere 42 = .ok (.ireturn, 1) := wn_at gdX11_isStairHere_33 5 rfl
theorem dX11_isStairHere_43 : decode cX11_isStairHere 43 = .ok (.aload_n 0, 1) := wn_at gdX11_isStairHere_33 6 rfl
theorem dX11_isStairHere_44 : decode cX11_isStairHere 44 = .ok (.getfield 29, 3) := wn_at gdX11_isStairHere_33 7 rfl
theorem dX11_isStairHere_47 : decode cX11_isStairHere 47 = .ok (.iload_n 2, 1) := wn_at gdX11_isStairHere_33 8 rfl
theorem dX11_isStairHere_48 : decode cX11_isStairHere 48 = .ok (.aload_n 0, 1) := wn_at gdX11_isStairHere_33 9 rfl
theorem gdX11_isStairHere_49 : ∀ e ∈ ([(49, .getfield 128, 3), (52, .iastore, 1), (53, .aload_n 0, 1), (54, .invokevirtual 106, 3), (57, .pop, 1), (58, .aload_n 0, 1), (59, .getfield 103, 3), (62, .istore_n 3, 1), (63, .aload_n 0, 1), (64, .iconst 0, 1)] : List (Nat × Instr × Nat)), decode cX11_isStairHere e.1 = .ok e.2 := wn_all _ 49 (by decide +kernel)
theorem dX11_isStairHere_49 : decode cX11_isStairHere 49 = .ok (.getfield 128, 3) := wn_at gdX11_isStairHere_49 0 rfl
theorem dX11_isStairHere_52 : decode cX11_isStairHere 52 = .ok (.iastore, 1) := wn_at gdX11_isStairHere_49 1 rfl
theorem dX11_isStairHere_53 : decode cX11_isStairHere 53 = .ok (.aload_n 0, 1) := wn_at gdX11_isStairHere_49 2 rfl
theorem dX11_isStairHere_54 : decode cX11_isStairHere 54 = .ok (.invokevirtual 106, 3) := wn_at gdX11_isStairHere_49 3 rfl
theorem dX11_isStairHere_57 : decode cX11_isStairHere 57 = .ok (.pop, 1) := wn_at gdX11_isStairHere_49 4 rfl
theorem dX11_isStairHere_58 : decode cX11_isStairHere 58 = .ok (.aload_n 0, 1) := wn_at gdX11_isStairHere_49 5 rfl
theorem dX11_isStairHere_59 : decode cX11_isStairHere 59 = .ok (.getfield 103, 3) := wn_at gdX11_isStairHere_49 6 rfl
theorem dX11_isStairHere_62 : decode cX11_isStairHere 62 = .ok (.istore_n 3, 1) := wn_at gdX11_isStairHere_49 7 rfl
theorem dX11_isStairHere_63 : decode cX11_isStairHere 63 = .ok (.aload_n 0, 1) := wn_at gdX11_isStairHere_49 8 rfl
theorem dX11_isStairHere_64 : decode cX11_isStairHere 64 = .ok (.iconst 0, 1) := wn_at gdX11_isStairHere_49 9 rfl
theorem gdX11_isStairHere_65 : ∀ e ∈ ([(65, .aload_n 0, 1), (66, .getfield 223, 3), (69, .iconst 1, 1), (70, .isub, 1), (71, .invokevirtual 172, 3), (74, .ifCond .ne 5, 3), (77, .iconst 0, 1), (78, .ireturn, 1), (79, .aload_n 0, 1), (80, .getfield 128, 3)] : List (Nat × Instr × Nat)), decode cX11_isStairHere e.1 = .ok e.2 := wn_all _ 65 (by decide +kernel)
theorem dX11_isStairHere_65 : decode cX11_isStairHere 65 = .ok (.aload_n 0, 1) := wn_at gdX11_isStairHere_65 0 rfl
theorem dX11_isStairHere_66 : decode cX11_isStairHere 66 = .ok (.getfield 223, 3) := wn_at gdX11_isStairHere_65 1 rfl
theorem dX11_isStairHere_69 : decode cX11_isStairHere 69 = .ok (.iconst 1, 1) := wn_at gdX11_isStairHere_65 2 rfl
theorem dX11_isStairHere_70 : decode cX11_isStairHere 70 = .ok (.isub, 1) := wn_at gdX11_isStairHere_65 3 rfl
theorem dX11_isStairHere_71 : decode cX11_isStairHere 71 = .ok (.invokevirtual 172, 3) := wn_at gdX11_isStairHere_65 4 rfl
theorem dX11_isStairHere_74 : decode cX11_isStairHere 74 = .ok (.ifCond .ne 5, 3) := wn_at gdX11_isStairHere_65 5 rfl
theorem dX11_isStairHere_77 : decode cX11_isStairHere 77 = .ok (.iconst 0, 1) := wn_at gdX11_isStairHere_65 6 rfl
theorem dX11_isStairHere_78 : decode cX11_isStairHere 78 = .ok (.ireturn, 1) := wn_at gdX11_isStairHere_65 7 rfl
theorem dX11_isStairHere_79 : decode cX11_isStairHere 79 = .ok (.aload_n 0, 1) := wn_at gdX11_isStairHere_65 8 rfl
theorem dX11_isStairHere_80 : decode cX11_isStairHere 80 = .ok (.getfield 128, 3) := wn_at gdX11_isStairHere_65 9 rfl
theorem gdX11_isStairHere_83 : ∀ e ∈ ([(83, .aload_n 0, 1), (84, .getfield 29, 3), (87, .iload_n 2, 1), (88, .iaload, 1), (89, .if_icmp .ne 10, 3), (92, .aload_n 0, 1), (93, .iconst 1, 1), (94, .iload_n 3, 1), (95, .invokevirtual 124, 3), (98, .ireturn, 1)] : List (Nat × Instr × Nat)), decode cX11_isStairHere e.1 = .ok e.2 := wn_all _ 83 (by decide +kernel)
theorem dX11_isStairHere_83 : decode cX11_isStairHere 83 = .ok (.aload_n 0, 1) := wn_at gdX11_isStairHere_83 0 rfl
theorem dX11_isStairHere_84 : decode cX11_isStairHere 84 = .ok (.getfield 29, 3) := wn_at gdX11_isStairHere_83 1 rfl
theorem dX11_isStairHere_87 : decode cX11_isStairHere 87 = .ok (.iload_n 2, 1) := wn_at gdX11_isStairHere_83 2 rfl
theorem dX11_isStairHere_88 : decode cX11_isStairHere 88 = .ok (.iaload, 1) := wn_at gdX11_isStairHere_83 3 rfl
theorem dX11_isStairHere_89 : decode cX11_isStairHere 89 = .ok (.if_icmp .ne 10, 3) := wn_at gdX11_isStairHere_83 4 rfl
theorem dX11_isStairHere_92 : decode cX11_isStairHere 92 = .ok (.aload_n 0, 1) := wn_at gdX11_isStairHere_83 5 rfl
theorem dX11_isStairHere_93 : decode cX11_isStairHere 93 = .ok (.iconst 1, 1) := wn_at gdX11_isStairHere_83 6 rfl
theorem dX11_isStairHere_94 : decode cX11_isStairHere 94 = .ok (.iload_n 3, 1) := wn_at gdX11_isStairHere_83 7 rfl
theorem dX11_isStairHere_95 : decode cX11_isStairHere 95 = .ok (.invokevirtual 124, 3) := wn_at gdX11_isStairHere_83 8 rfl
theorem dX11_isStairHere_98 : decode cX11_isStairHere 98 = .ok (.ireturn, 1) := wn_at gdX11_isStairHere_83 9 rfl
theorem gdX11_isStairHere_99 : ∀ e ∈ ([(99, .aload_n 0, 1), (100, .getfield 29, 3), (103, .iload_n 2, 1), (104, .iconst 1, 1), (105, .iadd, 1), (106, .aload_n 0, 1), (107, .getfield 128, 3), (110, .iastore, 1), (111, .iconst 2, 1), (112, .istore 4, 2)] : List (Nat × Instr × Nat)), decode cX11_isStairHere e.1 = .ok e.2 := wn_all _ 99 (by decide +kernel)
theorem dX11_isStairHere_99 : decode cX11_isStairHere 99 = .ok (.aload_n 0, 1) := wn_at gdX11_isStairHere_99 0 rfl
theorem dX11_isStairHere_100 : decode cX11_isStairHere 100 = .ok (.getfield 29, 3) := wn_at gdX11_isStairHere_99 1 rfl
theorem dX11_isStairHere_103 : decode cX11_isStairHere 103 = .ok (.iload_n 2, 1) := wn_at gdX11_isStairHere_99 2 rfl
theorem dX11_isStairHere_104 : decode cX11_isStairHere 104 = .ok (.iconst 1, 1) := wn_at gdX11_isStairHere_99 3 rfl
theorem dX11_isStairHere_105 : decode cX11_isStairHere 105 = .ok (.iadd, 1) := wn_at gdX11_isStairHere_99 4 rfl
theorem dX11_isStairHere_106 : decode cX11_isStairHere 106 = .ok (.aload_n 0, 1) := wn_at gdX11_isStairHere_99 5 rfl
theorem dX11_isStairHere_107 : decode cX11_isStairHere 107 = .ok (.getfield 128, 3) := wn_at gdX11_isStairHere_99 6 rfl
theorem dX11_isStairHere_110 : decode cX11_isStairHere 110 = .ok (.iastore, 1) := wn_at gdX11_isStairHere_99 7 rfl
theorem dX11_isStairHere_111 : decode cX11_isStairHere 111 = .ok (.iconst 2, 1) := wn_at gdX11_isStairHere_99 8 rfl
theorem dX11_isStairHere_112 : decode cX11_isStairHere 112 = .ok (.istore 4, 2) := wn_at gdX11_isStairHere_99 9 rfl
theorem gdX11_isStairHere_114 : ∀ e ∈ ([(114, .iload 4, 2), (116, .iconst 5, 1), (117, .if_icmp .ge 45, 3), (120, .aload_n 0, 1), (121, .iconst 1, 1), (122, .iload 4, 2), (124, .iconst 2, 1), (125, .if_icmp .ne 8, 3), (128, .bipush 9, 2), (130, .goto 5, 3)] : List (Nat × Instr × Nat)), decode cX11_isStairHere e.1 = .ok e.2 := wn_all _ 114 (by decide +kernel)
theorem dX11_isStairHere_114 : decode cX11_isStairHere 114 = .ok (.iload 4, 2) := wn_at gdX11_isStairHere_114 0 rfl
theorem dX11_isStairHere_116 : decode cX11_isStairHere 116 = .ok (.iconst 5, 1) := wn_at gdX11_isStairHere_114 1 rfl
theorem dX11_isStairHere_117 : decode cX11_isStairHere 117 = .ok (.if_icmp .ge 45, 3) := wn_at gdX11_isStairHere_114 2 rfl
theorem dX11_isStairHere_120 : decode cX11_isStairHere 120 = .ok (.aload_n 0, 1) := wn_at gdX11_isStairHere_114 3 rfl
theorem dX11_isStairHere_121 : decode cX11_isStairHere 121 = .ok (.iconst 1, 1) := wn_at gdX11_isStairHere_114 4 rfl
theorem dX11_isStairHere_122 : decode cX11_isStairHere 122 = .ok (.iload 4, 2) := wn_at gdX11_isStairHere_114 5 rfl
theorem dX11_isStairHere_124 : decode cX11_isStairHere 124 = .ok (.iconst 2, 1) := wn_at gdX11_isStairHere_114 6 rfl
theorem dX11_isStairHere_125 : decode cX11_isStairHere 125 = .ok (.if_icmp .ne 8, 3) := wn_at gdX11_isStairHere_114 7 rfl
theorem dX11_isStairHere_128 : decode cX11_isStairHere 128 = .ok (.bipush 9, 2) := wn_at gdX11_isStairHere_114 8 rfl
theorem dX11_isStairHere_130 : decode cX11_isStairHere 130 = .ok (.goto 5, 3) := wn_at gdX11_isStairHere_114 9 rfl
theorem gdX11_isStairHere_133 : ∀ e ∈ ([(133, .bipush 20, 2), (135, .invokevirtual 172, 3), (138, .ifCond .ne 5, 3), (141, .iconst 0, 1), (142, .ireturn, 1), (143, .aload_n 0, 1), (144, .getfield 29, 3), (147, .iload_n 2, 1), (148, .iload 4, 2), (150, .iadd, 1)] : List (Nat × Instr × Nat)), decode cX11_isStairHere e.1 = .ok e.2 := wn_all _ 133 (by decide +kernel)
theorem dX11_isStairHere_133 : decode cX11_isStairHere 133 = .ok (.bipush 20, 2) := wn_at gdX11_isStairHere_133 0 rfl
theorem dX11_isStairHere_135 : decode cX11_isStairHere 135 = .ok (.invokevirtual 172, 3) := wn_at gdX11_isStairHere_133 1 rfl
theorem dX11_isStairHere_138 : decode cX11_isStairHere 138 = .ok (.ifCond .ne 5, 3) := wn_at gdX11_isStairHere_133 2 rfl
theorem dX11_isStairHere_141 : decode cX11_isStairHere 141 = .ok (.iconst 0, 1) := wn_at gdX11_isStairHere_133 3 rfl
theorem dX11_isStairHere_142 : decode cX11_isStairHere 142 = .ok (.ireturn, 1) := wn_at gdX11_isStairHere_133 4 rfl
theorem dX11_isStairHere_143 : decode cX11_isStairHere 143 = .ok (.aload_n 0, 1) := wn_at gdX11_isStairHere_133 5 rfl
theorem dX11_isStairHere_144 : decode cX11_isStairHere 144 = .ok (.getfield 29, 3) := wn_at gdX11_isStairHere_133 6 rfl
theorem dX11_isStairHere_147 : decode cX11_isStairHere 147 = .ok (.iload_n 2, 1) := wn_at gdX11_isStairHere_133 7 rfl
theorem dX11_isStairHere_148 : decode cX11_isStairHere 148 = .ok (.iload 4, 2) := wn_at gdX11_isStairHere_133 8 rfl
theorem dX11_isStairHere_150 : decode cX11_isStairHere 150 = .ok (.iadd, 1) := wn_at gdX11_isStairHere_133 9 rfl
theorem gdX11_isStairHere_151 : ∀ e ∈ ([(151, .aload_n 0, 1), (152, .getfield 128, 3), (155, .iastore, 1), (156, .iinc 4 1, 3), (159, .goto (-45), 3), (162, .aload_n 0, 1), (163, .dup, 1), (164, .getfield 226, 3), (167, .iconst 1, 1), (168, .iadd, 1)] : List (Nat × Instr × Nat)), decode cX11_isStairHere e.1 = .ok e.2 := wn_all _ 151 (by decide +kernel)
theorem dX11_isStairHere_151 : decode cX11_isStairHere 151 = .ok (.aload_n 0, 1) := wn_at gdX11_isStairHere_151 0 rfl
theorem dX11_isStairHere_152 : decode cX11_isStairHere 152 = .ok (.getfield 128, 3) := wn_at gdX11_isStairHere_151 1 rfl
theorem dX11_isStairHere_155 : decode cX11_isStairHere 155 = .ok (.iastore, 1) := wn_at gdX11_isStairHere_151 2 rfl
theorem dX11_isStairHere_156 : decode cX11_isStairHere 156 = .ok (.iinc 4 1, 3) := wn_at gdX11_isStairHere_151 3 rfl
theorem dX11_isStairHere_159 : decode cX11_isStairHere 159 = .ok (.goto (-45), 3) := wn_at gdX11_isStairHere_151 4 rfl
theorem dX11_isStairHere_162 : decode cX11_isStairHere 162 = .ok (.aload_n 0, 1) := wn_at gdX11_isStairHere_151 5 rfl
theorem dX11_isStairHere_163 : decode cX11_isStairHere 163 = .ok (.dup, 1) := wn_at gdX11_isStairHere_151 6 rfl
theorem dX11_isStairHere_164 : decode cX11_isStairHere 164 = .ok (.getfield 226, 3) := wn_at gdX11_isStairHere_151 7 rfl
theorem dX11_isStairHere_167 : decode cX11_isStairHere 167 = .ok (.iconst 1, 1) := wn_at gdX11_isStairHere_151 8 rfl
theorem dX11_isStairHere_168 : decode cX11_isStairHere 168 = .ok (.iadd, 1) := wn_at gdX11_isStairHere_151 9 rfl
theorem gdX11_isStairHere_169 : ∀ e ∈ ([(169, .putfield 226, 3), (172, .iconst 1, 1), (173, .ireturn, 1)] : List (Nat × Instr × Nat)), decode cX11_isStairHere e.1 = .ok e.2 := wn_all _ 169 (by decide +kernel)
theorem dX11_isStairHere_169 : decode cX11_isStairHere 169 = .ok (.putfield 226, 3) := wn_at gdX11_isStairHere_169 0 rfl
theorem dX11_isStairHere_172 : decode cX11_isStairHere 172 = .ok (.iconst 1, 1) := wn_at gdX11_isStairHere_169 1 rfl
theorem dX11_isStairHere_173 : decode cX11_isStairHere 173 = .ok (.ireturn, 1) := wn_at gdX11_isStairHere_169 2 rfl
theorem gdX11_isThingHere_0 : ∀ e ∈ ([(0, .aload_n 0, 1), (1, .getfield 229, 3), (4, .bipush 8, 2), (6, .if_icmp .ne 10, 3), (9, .aload_n 0, 1), (10, .iconst 4, 1), (11, .iload_n 1, 1), (12, .invokevirtual 124, 3), (15, .ireturn, 1), (16, .aload_n 0, 1)] : List (Nat × Instr × Nat)), decode cX11_isThingHere e.1 = .ok e.2 := wn_all _ 0 (by decide +kernel)
theorem dX11_isThingHere_0 : decode cX11_isThingHere 0 = .ok (.aload_n 0, 1) := wn_at gdX11_isThingHere_0 0 rfl
theorem dX11_isThingHere_1 : decode cX11_isThingHere 1 = .ok (.getfield 229, 3) := wn_at gdX11_isThingHere_0 1 rfl
theorem dX11_isThingHere_4 : decode cX11_isThingHere 4 = .ok (.bipush 8, 2) := wn_at gdX11_isThingHere_0 2 rfl
theorem dX11_isThingHere_6 : decode cX11_isThingHere 6 = .ok (.if_icmp .ne 10, 3) := wn_at gdX11_isThingHere_0 3 rfl
theorem dX11_isThingHere_9 : decode cX11_isThingHere 9 = .ok (.aload_n 0, 1) := wn_at gdX11_isThingHere_0 4 rfl
theorem dX11_isThingHere_10 : decode cX11_isThingHere 10 = .ok (.iconst 4, 1) := wn_at gdX11_isThingHere_0 5 rfl
theorem dX11_isThingHere_11 : decode cX11_isThingHere 11 = .ok (.iload_n 1, 1) := wn_at gdX11_isThingHere_0 6 rfl
theorem dX11_isThingHere_12 : decode cX11_isThingHere 12 = .ok (.invokevirtual 124, 3) := wn_at gdX11_isThingHere_0 7 rfl
theorem dX11_isThingHere_15 : decode cX11_isThingHere 15 = .ok (.ireturn, 1) := wn_at gdX11_isThingHere_0 8 rfl
theorem dX11_isThingHere_16 : decode cX11_isThingHere 16 = .ok (.aload_n 0, 1) := wn_at gdX11_isThingHere_0 9 rfl
theorem gdX11_isThingHere_17 : ∀ e ∈ ([(17, .invokevirtual 118, 3), (20, .aload_n 0, 1), (21, .iconst 0, 1), (22, .aload_n 0, 1), (23, .getfield 223, 3), (26, .iconst 1, 1), (27, .isub, 1), (28, .invokevirtual 172, 3), (31, .ifCond .ne 5, 3), (34, .iconst 0, 1)] : List (Nat × Instr × Nat)), decode cX11_isThingHere e.1 = .ok e.2 := wn_all _ 17 (by decide +kernel)
theorem dX11_isThingHere_17 : decode cX11_isThingHere 17 = .ok (.invokevirtual 118, 3) := wn_at gdX11_isThingHere_17 0 rfl
theorem dX11_isThingHere_20 : decode cX11_isThingHere 20 = .ok (.aload_n 0, 1) := wn_at gdX11_isThingHere_17 1 rfl
theorem dX11_isThingHere_21 : decode cX11_isThingHere 21 = .ok (.iconst 0, 1) := wn_at gdX11_isThingHere_17 2 rfl
theorem dX11_isThingHere_22 : decode cX11_isThingHere 22 = .ok (.aload_n 0, 1) := wn_at gdX11_isThingHere_17 3 rfl
theorem dX11_isThingHere_23 : decode cX11_isThingHere 23 = .ok (.getfield 223, 3) := wn_at gdX11_isThingHere_17 4 rfl
theorem dX11_isThingHere_26 : decode cX11_isThingHere 26 = .ok (.iconst 1, 1) := wn_at gdX11_isThingHere_17 5 rfl
theorem dX11_isThingHere_27 : decode cX11_isThingHere 27 = .ok (.isub, 1) := wn_at gdX11_isThingHere_17 6 rfl
theorem dX11_isThingHere_28 : decode cX11_isThingHere 28 = .ok (.invokevirtual 172, 3) := wn_at gdX11_isThingHere_17 7 rfl
theorem dX11_isThingHere_31 : decode cX11_isThingHere 31 = .ok (.ifCond .ne 5, 3) := wn_at gdX11_isThingHere_17 8 rfl
theorem dX11_isThingHere_34 : decode cX11_isThingHere 34 = .ok (.iconst 0, 1) := wn_at gdX11_isThingHere_17 9 rfl
theorem gdX11_isThingHere_35 : ∀ e ∈ ([(35, .ireturn, 1), (36, .aload_n 0, 1), (37, .getfield 32, 3), (40, .aload_n 0, 1), (41, .getfield 229, 3), (44, .aload_n 0, 1), (45, .getfield 128, 3), (48, .iastore, 1), (49, .aload_n 0, 1), (50, .dup, 1)] : List (Nat × Instr × Nat)), decode cX11_isThingHere e.1 = .ok e.2 := wn_all _ 35 (by decide +kernel)
theorem dX11_isThingHere_35 : decode cX11_isThingHere 35 = .ok (.ireturn, 1) := wn_at gdX11_isThingHere_35 0 rfl
theorem dX11_isThingHere_36 : decode cX11_isThingHere 36 = .ok (.aload_n 0, 1) := wn_at gdX11_isThingHere_35 1 rfl
theorem dX11_isThingHere_37 : decode cX11_isThingHere 37 = .ok (.getfield 32, 3) := wn_at gdX11_isThingHere_35 2 rfl
theorem dX11_isThingHere_40 : decode cX11_isThingHere 40 = .ok (.aload_n 0, 1) := wn_at gdX11_isThingHere_35 3 rfl
theorem dX11_isThingHere_41 : decode cX11_isThingHere 41 = .ok (.getfield 229, 3) := wn_at gdX11_isThingHere_35 4 rfl
theorem dX11_isThingHere_44 : decode cX11_isThingHere 44 = .ok (.aload_n 0, 1) := wn_at gdX11_isThingHere_35 5 rfl
theorem dX11_isThingHere_45 : decode cX11_isThingHere 45 = .ok (.getfield 128, 3) := wn_at gdX11_isThingHere_35 6 rfl
theorem dX11_isThingHere_48 : decode cX11_isThingHere 48 = .ok (.iastore, 1) := wn_at gdX11_isThingHere_35 7 rfl
theorem dX11_isThingHere_49 : decode cX11_isThingHere 49 = .ok (.aload_n 0, 1) := wn_at gdX11_isThingHere_35 8 rfl
theorem dX11_isThingHere_50 : decode cX11_isThingHere 50 = .ok (.dup, 1) := wn_at gdX11_isThingHere_35 9 rfl
theorem gdX11_isThingHere_51 : ∀ e ∈ ([(51, .getfield 229, 3), (54, .iconst 1, 1), (55, .iadd, 1), (56, .putfield 229, 3), (59, .iconst 1, 1), (60, .ireturn, 1)] : List (Nat × Instr × Nat)), decode cX11_isThingHere e.1 = .ok e.2 := wn_all _ 51 (by decide +kernel)
theorem dX11_isThingHere_51 : decode cX11_isThingHere 51 = .ok (.getfield 229, 3) := wn_at gdX11_isThingHere_51 0 rfl
theorem dX11_isThingHere_54 : decode cX11_isThingHere 54 = .ok (.iconst 1, 1) := wn_at gdX11_isThingHere_51 1 rfl
theorem dX11_isThingHere_55 : decode cX11_isThingHere 55 = .ok (.iadd, 1) := wn_at gdX11_isThingHere_51 2 rfl
theorem dX11_isThingHere_56 : decode cX11_isThingHere 56 = .ok (.putfield 229, 3) := wn_at gdX11_isThingHere_51 3 rfl
theorem dX11_isThingHere_59 : decode cX11_isThingHere 59 = .ok (.iconst 1, 1) := wn_at gdX11_isThingHere_51 4 rfl
theorem dX11_isThingHere_60 : decode cX11_isThingHere 60 = .ok (.ireturn, 1) := wn_at gdX11_isThingHere_51 5 rfl
theorem gdX11_clauseHere_0 : ∀ e ∈ ([(0, .aload_n 0, 1), (1, .invokevirtual 106, 3), (4, .pop, 1), (5, .aload_n 0, 1), (6, .getfield 103, 3), (9, .istore_n 1, 1), (10, .aload_n 0, 1), (11, .getfield 151, 3), (14, .bipush 6, 2), (16, .if_icmp .ne 7, 3)] : List (Nat × Instr × Nat)), decode cX11_clauseHere e.1 = .ok e.2 := wn_all _ 0 (by decide +kernel)
theorem dX11_clauseHere_0 : decode cX11_clauseHere 0 = .ok (.aload_n 0, 1) := wn_at gdX11_clauseHere_0 0 rfl
theorem dX11_clauseHere_1 : decode cX11_clauseHere 1 = .ok (.invokevirtual 106, 3) := wn_at gdX11_clauseHere_0 1 rfl
theorem dX11_clauseHere_4 : decode cX11_clauseHere 4 = .ok (.pop, 1) := wn_at gdX11_clauseHere_0 2 rfl
theorem dX11_clauseHere_5 : decode cX11_clauseHere 5 = .ok (.aload_n 0, 1) := wn_at gdX11_clauseHere_0 3 rfl
theorem dX11_clauseHere_6 : decode cX11_clauseHere 6 = .ok (.getfield 103, 3) := wn_at gdX11_clauseHere_0 4 rfl
theorem dX11_clauseHere_9 : decode cX11_clauseHere 9 = .ok (.istore_n 1, 1) := wn_at gdX11_clauseHere_0 5 rfl
theorem dX11_clauseHere_10 : decode cX11_clauseHere 10 = .ok (.aload_n 0, 1) := wn_at gdX11_clauseHere_0 6 rfl
theorem dX11_clauseHere_11 : decode cX11_clauseHere 11 = .ok (.getfield 151, 3) := wn_at gdX11_clauseHere_0 7 rfl
theorem dX11_clauseHere_14 : decode cX11_clauseHere 14 = .ok (.bipush 6, 2) := wn_at gdX11_clauseHere_0 8 rfl
theorem dX11_clauseHere_16 : decode cX11_clauseHere 16 = .ok (.if_icmp .ne 7, 3) := wn_at gdX11_clauseHere_0 9 rfl
theorem gdX11_clauseHere_19 : ∀ e ∈ ([(19, .iconst 1, 1), (20, .goto 4, 3), (23, .iconst 0, 1), (24, .istore_n 2, 1), (25, .iload_n 2, 1), (26, .ifCond .eq 41, 3), (29, .aload_n 0, 1), (30, .ldc2_w 139, 3), (33, .invokevirtual 114, 3), (36, .ifCond .ne 23, 3)] : List (Nat × Instr × Nat)), decode cX11_clauseHere e.1 = .ok e.2 := wn_all _ 19 (by decide +kernel)
theorem dX11_clauseHere_19 : decode cX11_clauseHere 19 = .ok (.iconst 1, 1) := wn_at gdX11_clauseHere_19 0 rfl
theorem dX11_clauseHere_20 : decode cX11_clauseHere 20 = .ok (.goto 4, 3) := wn_at gdX11_clauseHere_19 1 rfl
theorem dX11_clauseHere_23 : decode cX11_clauseHere 23 = .ok (.iconst 0, 1) := wn_at gdX11_clauseHere_19 2 rfl
theorem dX11_clauseHere_24 : decode cX11_clauseHere 24 = .ok (.istore_n 2, 1) := wn_at gdX11_clauseHere_19 3 rfl
theorem dX11_clauseHere_25 : decode cX11_clauseHere 25 = .ok (.iload_n 2, 1) := wn_at gdX11_clauseHere_19 4 rfl
theorem dX11_clauseHere_26 : decode cX11_clauseHere 26 = .ok (.ifCond .eq 41, 3) := wn_at gdX11_clauseHere_19 5 rfl
theorem dX11_clauseHere_29 : decode cX11_clauseHere 29 = .ok (.aload_n 0, 1) := wn_at gdX11_clauseHere_19 6 rfl
theorem dX11_clauseHere_30 : decode cX11_clauseHere 30 = .ok (.ldc2_w 139, 3) := wn_at gdX11_clauseHere_19 7 rfl
theorem dX11_clauseHere_33 : decode cX11_clauseHere 33 = .ok (.invokevirtual 114, 3) := wn_at gdX11_clauseHere_19 8 rfl
theorem dX11_clauseHere_36 : decode cX11_clauseHere 36 = .ok (.ifCond .ne 23, 3) := wn_at gdX11_clauseHere_19 9 rfl
theorem gdX11_clauseHere_39 : ∀ e ∈ ([(39, .aload_n 0, 1), (40, .ldc2_w 232, 3), (43, .invokevirtual 114, 3), (46, .ifCond .ne 13, 3), (49, .aload_n 0, 1), (50, .ldc2_w 137, 3), (53, .invokevirtual 114, 3), (56, .ifCond .eq 7, 3), (59, .iconst 1, 1), (60, .goto 14, 3)] : List (Nat × Instr × Nat)), decode cX11_clauseHere e.1 = .ok e.2 := wn_all _ 39 (by decide +kernel)
theorem dX11_clauseHere_39 : decode cX11_clauseHere 39 = .ok (.aload_n 0, 1) := wn_at gdX11_clauseHere_39 0 rfl
theorem dX11_clauseHere_40 : decode cX11_clauseHere 40 = .ok (.ldc2_w 232, 3) := wn_at gdX11_clauseHere_39 1 rfl
theorem dX11_clauseHere_43 : decode cX11_clauseHere 43 = .ok (.invokevirtual 114, 3) := wn_at gdX11_clauseHere_39 2 rfl
theorem dX11_clauseHere_46 : decode cX11_clauseHere 46 = .ok (.ifCond .ne 13, 3) := wn_at gdX11_clauseHere_39 3 rfl
theorem dX11_clauseHere_49 : decode cX11_clauseHere 49 = .ok (.aload_n 0, 1) := wn_at gdX11_clauseHere_39 4 rfl
theorem dX11_clauseHere_50 : decode cX11_clauseHere 50 = .ok (.ldc2_w 137, 3) := wn_at gdX11_clauseHere_39 5 rfl
theorem dX11_clauseHere_53 : decode cX11_clauseHere 53 = .ok (.invokevirtual 114, 3) := wn_at gdX11_clauseHere_39 6 rfl
theorem dX11_clauseHere_56 : decode cX11_clauseHere 56 = .ok (.ifCond .eq 7, 3) := wn_at gdX11_clauseHere_39 7 rfl
theorem dX11_clauseHere_59 : decode cX11_clauseHere 59 = .ok (.iconst 1, 1) := wn_at gdX11_clauseHere_39 8 rfl
theorem dX11_clauseHere_60 : decode cX11_clauseHere 60 = .ok (.goto 14, 3) := wn_at gdX11_clauseHere_39 9 rfl
theorem gdX11_clauseHere_63 : ∀ e ∈ ([(63, .iconst 0, 1), (64, .goto 10, 3), (67, .aload_n 0, 1), (68, .ldc2_w 234, 3), (71, .invokevirtual 114, 3), (74, .istore_n 3, 1), (75, .iload_n 3, 1), (76, .ifCond .ne 10, 3), (79, .aload_n 0, 1), (80, .iconst 0, 1)] : List (Nat × Instr × Nat)), decode cX11_clauseHere e.1 = .ok e.2 := wn_all _ 63 (by decide +kernel)
theorem dX11_clauseHere_63 : decode cX11_clauseHere 63 = .ok (.iconst 0, 1) := wn_at gdX11_clauseHere_63 0 rfl
theorem dX11_clauseHere_64 : decode cX11_clauseHere 64 = .ok (.goto 10, 3) := wn_at gdX11_clauseHere_63 1 rfl
theorem dX11_clauseHere_67 : decode cX11_clauseHere 67 = .ok (.aload_n 0, 1) := wn_at gdX11_clauseHere_63 2 rfl
theorem dX11_clauseHere_68 : decode cX11_clauseHere 68 = .ok (.ldc2_w 234, 3) := wn_at gdX11_clauseHere_63 3 rfl
theorem dX11_clauseHere_71 : decode cX11_clauseHere 71 = .ok (.invokevirtual 114, 3) := wn_at gdX11_clauseHere_63 4 rfl
theorem dX11_clauseHere_74 : decode cX11_clauseHere 74 = .ok (.istore_n 3, 1) := wn_at gdX11_clauseHere_63 5 rfl
theorem dX11_clauseHere_75 : decode cX11_clauseHere 75 = .ok (.iload_n 3, 1) := wn_at gdX11_clauseHere_63 6 rfl
theorem dX11_clauseHere_76 : decode cX11_clauseHere 76 = .ok (.ifCond .ne 10, 3) := wn_at gdX11_clauseHere_63 7 rfl
theorem dX11_clauseHere_79 : decode cX11_clauseHere 79 = .ok (.aload_n 0, 1) := wn_at gdX11_clauseHere_63 8 rfl
theorem dX11_clauseHere_80 : decode cX11_clauseHere 80 = .ok (.iconst 0, 1) := wn_at gdX11_clauseHere_63 9 rfl
theorem gdX11_clauseHere_81 : ∀ e ∈ ([(81, .iload_n 1, 1), (82, .invokevirtual 124, 3), (85, .ireturn, 1), (86, .aload_n 0, 1), (87, .getfield 236, 3), (90, .iload_n 2, 1), (91, .ifCond .eq 8, 3), (94, .bipush 24, 2), (96, .goto 5, 3), (99, .bipush 12, 2)] : List (Nat × Instr × Nat)), decode cX11_clauseHere e.1 = .ok e.2 := wn_all _ 81 (by decide +kernel)
theorem dX11_clauseHere_81 : decode cX11_clauseHere 81 = .ok (.iload_n 1, 1) := wn_at gdX11_clauseHere_81 0 rfl
theorem dX11_clauseHere_82 : decode cX11_clauseHere 82 = .ok (.invokevirtual 124, 3) := wn_at gdX11_clauseHere_81 1 rfl
theorem dX11_clauseHere_85 : decode cX11_clauseHere 85 = .ok (.ireturn, 1) := wn_at gdX11_clauseHere_81 2 rfl
theorem dX11_clauseHere_86 : decode cX11_clauseHere 86 = .ok (.aload_n 0, 1) := wn_at gdX11_clauseHere_81 3 rfl
theorem dX11_clauseHere_87 : decode cX11_clauseHere 87 = .ok (.getfield 236, 3) := wn_at gdX11_clauseHere_81 4 rfl
theorem dX11_clauseHere_90 : decode cX11_clauseHere 90 = .ok (.iload_n 2, 1) := wn_at gdX11_clauseHere_81 5 rfl
theorem dX11_clauseHere_91 : decode cX11_clauseHere 91 = .ok (.ifCond .eq 8, 3) := wn_at gdX11_clauseHere_81 6 rfl
theorem dX11_clauseHere_94 : decode cX11_clauseHere 94 = .ok (.bipush 24, 2) := wn_at gdX11_clauseHere_81 7 rfl
theorem dX11_clauseHere_96 : decode cX11_clauseHere 96 = .ok (.goto 5, 3) := wn_at gdX11_clauseHere_81 8 rfl
theorem dX11_clauseHere_99 : decode cX11_clauseHere 99 = .ok (.bipush 12, 2) := wn_at gdX11_clauseHere_81 9 rfl
theorem gdX11_clauseHere_101 : ∀ e ∈ ([(101, .if_icmp .ne 10, 3), (104, .aload_n 0, 1), (105, .iconst 4, 1), (106, .iload_n 1, 1), (107, .invokevirtual 124, 3), (110, .ireturn, 1), (111, .aload_n 0, 1), (112, .dup, 1), (113, .getfield 236, 3), (116, .iconst 1, 1)] : List (Nat × Instr × Nat)), decode cX11_clauseHere e.1 = .ok e.2 := wn_all _ 101 (by decide +kernel)
theorem dX11_clauseHere_101 : decode cX11_clauseHere 101 = .ok (.if_icmp .ne 10, 3) := wn_at gdX11_clauseHere_101 0 rfl
theorem dX11_clauseHere_104 : decode cX11_clauseHere 104 = .ok (.aload_n 0, 1) := wn_at gdX11_clauseHere_101 1 rfl
theorem dX11_clauseHere_105 : decode cX11_clauseHere 105 = .ok (.iconst 4, 1) := wn_at gdX11_clauseHere_101 2 rfl
theorem dX11_clauseHere_106 : decode cX11_clauseHere 106 = .ok (.iload_n 1, 1) := wn_at gdX11_clauseHere_101 3 rfl
theorem dX11_clauseHere_107 : decode cX11_clauseHere 107 = .ok (.invokevirtual 124, 3) := wn_at gdX11_clauseHere_101 4 rfl
theorem dX11_clauseHere_110 : decode cX11_clauseHere 110 = .ok (.ireturn, 1) := wn_at gdX11_clauseHere_101 5 rfl
theorem dX11_clauseHere_111 : decode cX11_clauseHere 111 = .ok (.aload_n 0, 1) := wn_at gdX11_clauseHere_101 6 rfl
theorem dX11_clauseHere_112 : decode cX11_clauseHere 112 = .ok (.dup, 1) := wn_at gdX11_clauseHere_101 7 rfl
theorem dX11_clauseHere_113 : decode cX11_clauseHere 113 = .ok (.getfield 236, 3) := wn_at gdX11_clauseHere_101 8 rfl
theorem dX11_clauseHere_116 : decode cX11_clauseHere 116 = .ok (.iconst 1, 1) := wn_at gdX11_clauseHere_101 9 rfl
theorem gdX11_clauseHere_117 : ∀ e ∈ ([(117, .iadd, 1), (118, .putfield 236, 3), (121, .iload_n 2, 1), (122, .ifCond .ne 8, 3), (125, .aload_n 0, 1), (126, .invokevirtual 239, 3), (129, .ireturn, 1), (130, .aload_n 0, 1), (131, .ldc2_w 139, 3), (134, .invokevirtual 114, 3)] : List (Nat × Instr × Nat)), decode cX11_clauseHere e.1 = .ok e.2 := wn_all _ 117 (by decide +kernel)
theorem dX11_clauseHere_117 : decode cX11_clauseHere 117 = .ok (.iadd, 1) := wn_at gdX11_clauseHere_117 0 rfl
theorem dX11_clauseHere_118 : decode cX11_clauseHere 118 = .ok (.putfield 236, 3) := wn_at gdX11_clauseHere_117 1 rfl
theorem dX11_clauseHere_121 : decode cX11_clauseHere 121 = .ok (.iload_n 2, 1) := wn_at gdX11_clauseHere_117 2 rfl
theorem dX11_clauseHere_122 : decode cX11_clauseHere 122 = .ok (.ifCond .ne 8, 3) := wn_at gdX11_clauseHere_117 3 rfl
theorem dX11_clauseHere_125 : decode cX11_clauseHere 125 = .ok (.aload_n 0, 1) := wn_at gdX11_clauseHere_117 4 rfl
theorem dX11_clauseHere_126 : decode cX11_clauseHere 126 = .ok (.invokevirtual 239, 3) := wn_at gdX11_clauseHere_117 5 rfl
theorem dX11_clauseHere_129 : decode cX11_clauseHere 129 = .ok (.ireturn, 1) := wn_at gdX11_clauseHere_117 6 rfl
theorem dX11_clauseHere_130 : decode cX11_clauseHere 130 = .ok (.aload_n 0, 1) := wn_at gdX11_clauseHere_117 7 rfl
theorem dX11_clauseHere_131 : decode cX11_clauseHere 131 = .ok (.ldc2_w 139, 3) := wn_at gdX11_clauseHere_117 8 rfl
theorem dX11_clauseHere_134 : decode cX11_clauseHere 134 = .ok (.invokevirtual 114, 3) := wn_at gdX11_clauseHere_117 9 rfl
theorem gdX11_clauseHere_137 : ∀ e ∈ ([(137, .ifCond .eq 11, 3), (140, .aload_n 0, 1), (141, .iload_n 1, 1), (142, .invokevirtual 242, 3), (145, .goto 26, 3), (148, .aload_n 0, 1), (149, .ldc2_w 232, 3), (152, .invokevirtual 114, 3), (155, .ifCond .eq 11, 3), (158, .aload_n 0, 1)] : List (Nat × Instr × Nat)), decode cX11_clauseHere e.1 = .ok e.2 := wn_all _ 137 (by decide +kernel)
theorem dX11_clauseHere_137 : decode cX11_clauseHere 137 = .ok (.ifCond .eq 11, 3) := wn_at gdX11_clauseHere_137 0 rfl
theorem dX11_clauseHere_140 : decode cX11_clauseHere 140 = .ok (.aload_n 0, 1) := wn_at gdX11_clauseHere_137 1 rfl
theorem dX11_clauseHere_141 : decode cX11_clauseHere 141 = .ok (.iload_n 1, 1) := wn_at gdX11_clauseHere_137 2 rfl
theorem dX11_clauseHere_142 : decode cX11_clauseHere 142 = .ok (.invokevirtual 242, 3) := wn_at gdX11_clauseHere_137 3 rfl
theorem dX11_clauseHere_145 : decode cX11_clauseHere 145 = .ok (.goto 26, 3) := wn_at gdX11_clauseHere_137 4 rfl
theorem dX11_clauseHere_148 : decode cX11_clauseHere 148 = .ok (.aload_n 0, 1) := wn_at gdX11_clauseHere_137 5 rfl
theorem dX11_clauseHere_149 : decode cX11_clauseHere 149 = .ok (.ldc2_w 232, 3) := wn_at gdX11_clauseHere_137 6 rfl
theorem dX11_clauseHere_152 : decode cX11_clauseHere 152 = .ok (.invokevirtual 114, 3) := wn_at gdX11_clauseHere_137 7 rfl
theorem dX11_clauseHere_155 : decode cX11_clauseHere 155 = .ok (.ifCond .eq 11, 3) := wn_at gdX11_clauseHere_137 8 rfl
theorem dX11_clauseHere_158 : decode cX11_clauseHere 158 = .ok (.aload_n 0, 1) := wn_at gdX11_clauseHere_137 9 rfl
theorem gdX11_clauseHere_159 : ∀ e ∈ ([(159, .iload_n 1, 1), (160, .invokevirtual 245, 3), (163, .goto 8, 3), (166, .aload_n 0, 1), (167, .iload_n 1, 1), (168, .invokevirtual 248, 3), (171, .ireturn, 1)] : List (Nat × Instr × Nat)), decode cX11_clauseHere e.1 = .ok e.2 := wn_all _ 159 (by decide +kernel)
theorem dX11_clauseHere_159 : decode cX11_clauseHere 159 = .ok (.iload_n 1, 1) := wn_at gdX11_clauseHere_159 0 rfl
theorem dX11_clauseHere_160 : decode cX11_clauseHere 160 = .ok (.invokevirtual 245, 3) := wn_at gdX11_clauseHere_159 1 rfl
theorem dX11_clauseHere_163 : decode cX11_clauseHere 163 = .ok (.goto 8, 3) := wn_at gdX11_clauseHere_159 2 rfl
theorem dX11_clauseHere_166 : decode cX11_clauseHere 166 = .ok (.aload_n 0, 1) := wn_at gdX11_clauseHere_159 3 rfl
theorem dX11_clauseHere_167 : decode cX11_clauseHere 167 = .ok (.iload_n 1, 1) := wn_at gdX11_clauseHere_159 4 rfl
theorem dX11_clauseHere_168 : decode cX11_clauseHere 168 = .ok (.invokevirtual 248, 3) := wn_at gdX11_clauseHere_159 5 rfl
theorem dX11_clauseHere_171 : decode cX11_clauseHere 171 = .ok (.ireturn, 1) := wn_at gdX11_clauseHere_159 6 rfl
theorem gdX11_readsAll_0 : ∀ e ∈ ([(0, .aload_n 0, 1), (1, .getfield 17, 3), (4, .aload_n 0, 1), (5, .getfield 151, 3), (8, .iconst 0, 1), (9, .iastore, 1), (10, .aload_n 0, 1), (11, .iconst 0, 1), (12, .putfield 236, 3), (15, .aload_n 0, 1)] : List (Nat × Instr × Nat)), decode cX11_readsAll e.1 = .ok e.2 := wn_all _ 0 (by decide +kernel)
theorem dX11_readsAll_0 : decode cX11_readsAll 0 = .ok (.aload_n 0, 1) := wn_at gdX11_readsAll_0 0 rfl
theorem dX11_readsAll_1 : decode cX11_readsAll 1 = .ok (.getfield 17, 3) := wn_at gdX11_readsAll_0 1 rfl
theorem dX11_readsAll_4 : decode cX11_readsAll 4 = .ok (.aload_n 0, 1) := wn_at gdX11_readsAll_0 2 rfl
theorem dX11_readsAll_5 : decode cX11_readsAll 5 = .ok (.getfield 151, 3) := wn_at gdX11_readsAll_0 3 rfl
theorem dX11_readsAll_8 : decode cX11_readsAll 8 = .ok (.iconst 0, 1) := wn_at gdX11_readsAll_0 4 rfl
theorem dX11_readsAll_9 : decode cX11_readsAll 9 = .ok (.iastore, 1) := wn_at gdX11_readsAll_0 5 rfl
theorem dX11_readsAll_10 : decode cX11_readsAll 10 = .ok (.aload_n 0, 1) := wn_at gdX11_readsAll_0 6 rfl
theorem dX11_readsAll_11 : decode cX11_readsAll 11 = .ok (.iconst 0, 1) := wn_at gdX11_readsAll_0 7 rfl
theorem dX11_readsAll_12 : decode cX11_readsAll 12 = .ok (.putfield 236, 3) := wn_at gdX11_readsAll_0 8 rfl
theorem dX11_readsAll_15 : decode cX11_readsAll 15 = .ok (.aload_n 0, 1) := wn_at gdX11_readsAll_0 9 rfl
theorem gdX11_readsAll_16 : ∀ e ∈ ([(16, .iconst 0, 1), (17, .putfield 103, 3), (20, .aload_n 0, 1), (21, .iconst 0, 1), (22, .putfield 100, 3), (25, .aload_n 0, 1), (26, .iconst 0, 1), (27, .putfield 154, 3), (30, .aload_n 0, 1), (31, .invokevirtual 251, 3)] : List (Nat × Instr × Nat)), decode cX11_readsAll e.1 = .ok e.2 := wn_all _ 16 (by decide +kernel)
theorem dX11_readsAll_16 : decode cX11_readsAll 16 = .ok (.iconst 0, 1) := wn_at gdX11_readsAll_16 0 rfl
theorem dX11_readsAll_17 : decode cX11_readsAll 17 = .ok (.putfield 103, 3) := wn_at gdX11_readsAll_16 1 rfl
theorem dX11_readsAll_20 : decode cX11_readsAll 20 = .ok (.aload_n 0, 1) := wn_at gdX11_readsAll_16 2 rfl
theorem dX11_readsAll_21 : decode cX11_readsAll 21 = .ok (.iconst 0, 1) := wn_at gdX11_readsAll_16 3 rfl
theorem dX11_readsAll_22 : decode cX11_readsAll 22 = .ok (.putfield 100, 3) := wn_at gdX11_readsAll_16 4 rfl
theorem dX11_readsAll_25 : decode cX11_readsAll 25 = .ok (.aload_n 0, 1) := wn_at gdX11_readsAll_16 5 rfl
theorem dX11_readsAll_26 : decode cX11_readsAll 26 = .ok (.iconst 0, 1) := wn_at gdX11_readsAll_16 6 rfl
theorem dX11_readsAll_27 : decode cX11_readsAll 27 = .ok (.putfield 154, 3) := wn_at gdX11_readsAll_16 7 rfl
theorem dX11_readsAll_30 : decode cX11_readsAll 30 = .ok (.aload_n 0, 1) := wn_at gdX11_readsAll_16 8 rfl
theorem dX11_readsAll_31 : decode cX11_readsAll 31 = .ok (.invokevirtual 251, 3) := wn_at gdX11_readsAll_16 9 rfl
theorem gdX11_readsAll_34 : ∀ e ∈ ([(34, .istore_n 1, 1), (35, .iload_n 1, 1), (36, .ifCond .eq 30, 3), (39, .aload_n 0, 1), (40, .invokevirtual 106, 3), (43, .bipush 59, 2), (45, .if_icmp .ne 21, 3), (48, .aload_n 0, 1), (49, .dup, 1), (50, .getfield 103, 3)] : List (Nat × Instr × Nat)), decode cX11_readsAll e.1 = .ok e.2 := wn_all _ 34 (by decide +kernel)
theorem dX11_readsAll_34 : decode cX11_readsAll 34 = .ok (.istore_n 1, 1) := wn_at gdX11_readsAll_34 0 rfl
theorem dX11_readsAll_35 : decode cX11_readsAll 35 = .ok (.iload_n 1, 1) := wn_at gdX11_readsAll_34 1 rfl
theorem dX11_readsAll_36 : decode cX11_readsAll 36 = .ok (.ifCond .eq 30, 3) := wn_at gdX11_readsAll_34 2 rfl
theorem dX11_readsAll_39 : decode cX11_readsAll 39 = .ok (.aload_n 0, 1) := wn_at gdX11_readsAll_34 3 rfl
theorem dX11_readsAll_40 : decode cX11_readsAll 40 = .ok (.invokevirtual 106, 3) := wn_at gdX11_readsAll_34 4 rfl
theorem dX11_readsAll_43 : decode cX11_readsAll 43 = .ok (.bipush 59, 2) := wn_at gdX11_readsAll_34 5 rfl
theorem dX11_readsAll_45 : decode cX11_readsAll 45 = .ok (.if_icmp .ne 21, 3) := wn_at gdX11_readsAll_34 6 rfl
theorem dX11_readsAll_48 : decode cX11_readsAll 48 = .ok (.aload_n 0, 1) := wn_at gdX11_readsAll_34 7 rfl
theorem dX11_readsAll_49 : decode cX11_readsAll 49 = .ok (.dup, 1) := wn_at gdX11_readsAll_34 8 rfl
theorem dX11_readsAll_50 : decode cX11_readsAll 50 = .ok (.getfield 103, 3) := wn_at gdX11_readsAll_34 9 rfl
theorem gdX11_readsAll_53 : ∀ e ∈ ([(53, .iconst 1, 1), (54, .iadd, 1), (55, .putfield 103, 3), (58, .aload_n 0, 1), (59, .invokevirtual 251, 3), (62, .istore_n 1, 1), (63, .goto (-28), 3), (66, .iload_n 1, 1), (67, .ifCond .eq 21, 3), (70, .aload_n 0, 1)] : List (Nat × Instr × Nat)), decode cX11_readsAll e.1 = .ok e.2 := wn_all _ 53 (by decide +kernel)
theorem dX11_readsAll_53 : decode cX11_readsAll 53 = .ok (.iconst 1, 1) := wn_at gdX11_readsAll_53 0 rfl
theorem dX11_readsAll_54 : decode cX11_readsAll 54 = .ok (.iadd, 1) := wn_at gdX11_readsAll_53 1 rfl
theorem dX11_readsAll_55 : decode cX11_readsAll 55 = .ok (.putfield 103, 3) := wn_at gdX11_readsAll_53 2 rfl
theorem dX11_readsAll_58 : decode cX11_readsAll 58 = .ok (.aload_n 0, 1) := wn_at gdX11_readsAll_53 3 rfl
theorem dX11_readsAll_59 : decode cX11_readsAll 59 = .ok (.invokevirtual 251, 3) := wn_at gdX11_readsAll_53 4 rfl
theorem dX11_readsAll_62 : decode cX11_readsAll 62 = .ok (.istore_n 1, 1) := wn_at gdX11_readsAll_53 5 rfl
theorem dX11_readsAll_63 : decode cX11_readsAll 63 = .ok (.goto (-28), 3) := wn_at gdX11_readsAll_53 6 rfl
theorem dX11_readsAll_66 : decode cX11_readsAll 66 = .ok (.iload_n 1, 1) := wn_at gdX11_readsAll_53 7 rfl
theorem dX11_readsAll_67 : decode cX11_readsAll 67 = .ok (.ifCond .eq 21, 3) := wn_at gdX11_readsAll_53 8 rfl
theorem dX11_readsAll_70 : decode cX11_readsAll 70 = .ok (.aload_n 0, 1) := wn_at gdX11_readsAll_53 9 rfl
theorem gdX11_readsAll_71 : ∀ e ∈ ([(71, .invokevirtual 106, 3), (74, .iconst (-1), 1), (75, .if_icmp .eq 13, 3), (78, .aload_n 0, 1), (79, .iconst 0, 1), (80, .aload_n 0, 1), (81, .getfield 103, 3), (84, .invokevirtual 124, 3), (87, .istore_n 1, 1), (88, .iload_n 1, 1)] : List (Nat × Instr × Nat)), decode cX11_readsAll e.1 = .ok e.2 := wn_all _ 71 (by decide +kernel)
theorem dX11_readsAll_71 : decode cX11_readsAll 71 = .ok (.invokevirtual 106, 3) := wn_at gdX11_readsAll_71 0 rfl
theorem dX11_readsAll_74 : decode cX11_readsAll 74 = .ok (.iconst (-1), 1) := wn_at gdX11_readsAll_71 1 rfl
theorem dX11_readsAll_75 : decode cX11_readsAll 75 = .ok (.if_icmp .eq 13, 3) := wn_at gdX11_readsAll_71 2 rfl
theorem dX11_readsAll_78 : decode cX11_readsAll 78 = .ok (.aload_n 0, 1) := wn_at gdX11_readsAll_71 3 rfl
theorem dX11_readsAll_79 : decode cX11_readsAll 79 = .ok (.iconst 0, 1) := wn_at gdX11_readsAll_71 4 rfl
theorem dX11_readsAll_80 : decode cX11_readsAll 80 = .ok (.aload_n 0, 1) := wn_at gdX11_readsAll_71 5 rfl
theorem dX11_readsAll_81 : decode cX11_readsAll 81 = .ok (.getfield 103, 3) := wn_at gdX11_readsAll_71 6 rfl
theorem dX11_readsAll_84 : decode cX11_readsAll 84 = .ok (.invokevirtual 124, 3) := wn_at gdX11_readsAll_71 7 rfl
theorem dX11_readsAll_87 : decode cX11_readsAll 87 = .ok (.istore_n 1, 1) := wn_at gdX11_readsAll_71 8 rfl
theorem dX11_readsAll_88 : decode cX11_readsAll 88 = .ok (.iload_n 1, 1) := wn_at gdX11_readsAll_71 9 rfl
theorem gdX11_readsAll_89 : ∀ e ∈ ([(89, .ifCond .eq 29, 3), (92, .aload_n 0, 1), (93, .getfield 151, 3), (96, .bipush 6, 2), (98, .if_icmp .ne 20, 3), (101, .aload_n 0, 1), (102, .getfield 223, 3), (105, .ifCond .ne 13, 3), (108, .aload_n 0, 1), (109, .iconst 0, 1)] : List (Nat × Instr × Nat)), decode cX11_readsAll e.1 = .ok e.2 := wn_all _ 89 (by decide +kernel)
theorem dX11_readsAll_89 : decode cX11_readsAll 89 = .ok (.ifCond .eq 29, 3) := wn_at gdX11_readsAll_89 0 rfl
theorem dX11_readsAll_92 : decode cX11_readsAll 92 = .ok (.aload_n 0, 1) := wn_at gdX11_readsAll_89 1 rfl
theorem dX11_readsAll_93 : decode cX11_readsAll 93 = .ok (.getfield 151, 3) := wn_at gdX11_readsAll_89 2 rfl
theorem dX11_readsAll_96 : decode cX11_readsAll 96 = .ok (.bipush 6, 2) := wn_at gdX11_readsAll_89 3 rfl
theorem dX11_readsAll_98 : decode cX11_readsAll 98 = .ok (.if_icmp .ne 20, 3) := wn_at gdX11_readsAll_89 4 rfl
theorem dX11_readsAll_101 : decode cX11_readsAll 101 = .ok (.aload_n 0, 1) := wn_at gdX11_readsAll_89 5 rfl
theorem dX11_readsAll_102 : decode cX11_readsAll 102 = .ok (.getfield 223, 3) := wn_at gdX11_readsAll_89 6 rfl
theorem dX11_readsAll_105 : decode cX11_readsAll 105 = .ok (.ifCond .ne 13, 3) := wn_at gdX11_readsAll_89 7 rfl
theorem dX11_readsAll_108 : decode cX11_readsAll 108 = .ok (.aload_n 0, 1) := wn_at gdX11_readsAll_89 8 rfl
theorem dX11_readsAll_109 : decode cX11_readsAll 109 = .ok (.iconst 0, 1) := wn_at gdX11_readsAll_89 9 rfl
theorem gdX11_readsAll_110 : ∀ e ∈ ([(110, .aload_n 0, 1), (111, .getfield 103, 3), (114, .invokevirtual 124, 3), (117, .pop, 1), (118, .aload_n 0, 1), (119, .iconst 0, 1), (120, .putfield 92, 3), (123, .aload_n 0, 1), (124, .getfield 100, 3), (127, .ifCond .ne 7, 3)] : List (Nat × Instr × Nat)), decode cX11_readsAll e.1 = .ok e.2 := wn_all _ 110 (by decide +kernel)
theorem dX11_readsAll_110 : decode cX11_readsAll 110 = .ok (.aload_n 0, 1) := wn_at gdX11_readsAll_110 0 rfl
theorem dX11_readsAll_111 : decode cX11_readsAll 111 = .ok (.getfield 103, 3) := wn_at gdX11_readsAll_110 1 rfl
theorem dX11_readsAll_114 : decode cX11_readsAll 114 = .ok (.invokevirtual 124, 3) := wn_at gdX11_readsAll_110 2 rfl
theorem dX11_readsAll_117 : decode cX11_readsAll 117 = .ok (.pop, 1) := wn_at gdX11_readsAll_110 3 rfl
theorem dX11_readsAll_118 : decode cX11_readsAll 118 = .ok (.aload_n 0, 1) := wn_at gdX11_readsAll_110 4 rfl
theorem dX11_readsAll_119 : decode cX11_readsAll 119 = .ok (.iconst 0, 1) := wn_at gdX11_readsAll_110 5 rfl
theorem dX11_readsAll_120 : decode cX11_readsAll 120 = .ok (.putfield 92, 3) := wn_at gdX11_readsAll_110 6 rfl
theorem dX11_readsAll_123 : decode cX11_readsAll 123 = .ok (.aload_n 0, 1) := wn_at gdX11_readsAll_110 7 rfl
theorem dX11_readsAll_124 : decode cX11_readsAll 124 = .ok (.getfield 100, 3) := wn_at gdX11_readsAll_110 8 rfl
theorem dX11_readsAll_127 : decode cX11_readsAll 127 = .ok (.ifCond .ne 7, 3) := wn_at gdX11_readsAll_110 9 rfl
theorem gdX11_readsAll_130 : ∀ e ∈ ([(130, .iconst 1, 1), (131, .goto 4, 3), (134, .iconst 0, 1), (135, .ireturn, 1)] : List (Nat × Instr × Nat)), decode cX11_readsAll e.1 = .ok e.2 := wn_all _ 130 (by decide +kernel)
theorem dX11_readsAll_130 : decode cX11_readsAll 130 = .ok (.iconst 1, 1) := wn_at gdX11_readsAll_130 0 rfl
theorem dX11_readsAll_131 : decode cX11_readsAll 131 = .ok (.goto 4, 3) := wn_at gdX11_readsAll_130 1 rfl
theorem dX11_readsAll_134 : decode cX11_readsAll 134 = .ok (.iconst 0, 1) := wn_at gdX11_readsAll_130 2 rfl
theorem dX11_readsAll_135 : decode cX11_readsAll 135 = .ok (.ireturn, 1) := wn_at gdX11_readsAll_130 3 rfl
theorem gdX11_rule_0 : ∀ e ∈ ([(0, .aload_n 0, 1), (1, .getfield 254, 3), (4, .bipush 6, 2), (6, .if_icmp .ne 5, 3), (9, .iconst (-1), 1), (10, .ireturn, 1), (11, .aload_n 0, 1), (12, .aload_n 0, 1), (13, .getfield 254, 3), (16, .putfield 151, 3)] : List (Nat × Instr × Nat)), decode cX11_rule e.1 = .ok e.2 := wn_all _ 0 (by decide +kernel)
theorem dX11_rule_0 : decode cX11_rule 0 = .ok (.aload_n 0, 1) := wn_at gdX11_rule_0 0 rfl
theorem dX11_rule_1 : decode cX11_rule 1 = .ok (.getfield 254, 3) := wn_at gdX11_rule_0 1 rfl
theorem dX11_rule_4 : decode cX11_rule 4 = .ok (.bipush 6, 2) := wn_at gdX11_rule_0 2 rfl
theorem dX11_rule_6 : decode cX11_rule 6 = .ok (.if_icmp .ne 5, 3) := wn_at gdX11_rule_0 3 rfl
theorem dX11_rule_9 : decode cX11_rule 9 = .ok (.iconst (-1), 1) := wn_at gdX11_rule_0 4 rfl
theorem dX11_rule_10 : decode cX11_rule 10 = .ok (.ireturn, 1) := wn_at gdX11_rule_0 5 rfl
theorem dX11_rule_11 : decode cX11_rule 11 = .ok (.aload_n 0, 1) := wn_at gdX11_rule_0 6 rfl
theorem dX11_rule_12 : decode cX11_rule 12 = .ok (.aload_n 0, 1) := wn_at gdX11_rule_0 7 rfl
theorem dX11_rule_13 : decode cX11_rule 13 = .ok (.getfield 254, 3) := wn_at gdX11_rule_0 8 rfl
theorem dX11_rule_16 : decode cX11_rule 16 = .ok (.putfield 151, 3) := wn_at gdX11_rule_0 9 rfl
theorem gdX11_rule_19 : ∀ e ∈ ([(19, .aload_n 0, 1), (20, .getfield 23, 3), (23, .aload_n 0, 1), (24, .getfield 151, 3), (27, .iconst 0, 1), (28, .iastore, 1), (29, .aload_n 0, 1), (30, .invokevirtual 257, 3), (33, .ifCond .ne 11, 3), (36, .bipush (-2), 2)] : List (Nat × Instr × Nat)), decode cX11_rule e.1 = .ok e.2 := wn_all _ 19 (by decide +kernel)
theorem dX11_rule_19 : decode cX11_rule 19 = .ok (.aload_n 0, 1) := wn_at gdX11_rule_19 0 rfl
theorem dX11_rule_20 : decode cX11_rule 20 = .ok (.getfield 23, 3) := wn_at gdX11_rule_19 1 rfl
theorem dX11_rule_23 : decode cX11_rule 23 = .ok (.aload_n 0, 1) := wn_at gdX11_rule_19 2 rfl
theorem dX11_rule_24 : decode cX11_rule 24 = .ok (.getfield 151, 3) := wn_at gdX11_rule_19 3 rfl
theorem dX11_rule_27 : decode cX11_rule 27 = .ok (.iconst 0, 1) := wn_at gdX11_rule_19 4 rfl
theorem dX11_rule_28 : decode cX11_rule 28 = .ok (.iastore, 1) := wn_at gdX11_rule_19 5 rfl
theorem dX11_rule_29 : decode cX11_rule 29 = .ok (.aload_n 0, 1) := wn_at gdX11_rule_19 6 rfl
theorem dX11_rule_30 : decode cX11_rule 30 = .ok (.invokevirtual 257, 3) := wn_at gdX11_rule_19 7 rfl
theorem dX11_rule_33 : decode cX11_rule 33 = .ok (.ifCond .ne 11, 3) := wn_at gdX11_rule_19 8 rfl
theorem dX11_rule_36 : decode cX11_rule 36 = .ok (.bipush (-2), 2) := wn_at gdX11_rule_19 9 rfl
theorem gdX11_rule_38 : ∀ e ∈ ([(38, .aload_n 0, 1), (39, .getfield 100, 3), (42, .isub, 1), (43, .ireturn, 1), (44, .aload_n 0, 1), (45, .dup, 1), (46, .getfield 254, 3), (49, .iconst 1, 1), (50, .iadd, 1), (51, .putfield 254, 3)] : List (Nat × Instr × Nat)), decode cX11_rule e.1 = .ok e.2 := wn_all _ 38 (by decide +kernel)
theorem dX11_rule_38 : decode cX11_rule 38 = .ok (.aload_n 0, 1) := wn_at gdX11_rule_38 0 rfl
theorem dX11_rule_39 : decode cX11_rule 39 = .ok (.getfield 100, 3) := wn_at gdX11_rule_38 1 rfl
theorem dX11_rule_42 : decode cX11_rule 42 = .ok (.isub, 1) := wn_at gdX11_rule_38 2 rfl
theorem dX11_rule_43 : decode cX11_rule 43 = .ok (.ireturn, 1) := wn_at gdX11_rule_38 3 rfl
theorem dX11_rule_44 : decode cX11_rule 44 = .ok (.aload_n 0, 1) := wn_at gdX11_rule_38 4 rfl
theorem dX11_rule_45 : decode cX11_rule 45 = .ok (.dup, 1) := wn_at gdX11_rule_38 5 rfl
theorem dX11_rule_46 : decode cX11_rule 46 = .ok (.getfield 254, 3) := wn_at gdX11_rule_38 6 rfl
theorem dX11_rule_49 : decode cX11_rule 49 = .ok (.iconst 1, 1) := wn_at gdX11_rule_38 7 rfl
theorem dX11_rule_50 : decode cX11_rule 50 = .ok (.iadd, 1) := wn_at gdX11_rule_38 8 rfl
theorem dX11_rule_51 : decode cX11_rule 51 = .ok (.putfield 254, 3) := wn_at gdX11_rule_38 9 rfl
theorem gdX11_rule_54 : ∀ e ∈ ([(54, .aload_n 0, 1), (55, .getfield 254, 3), (58, .iconst 1, 1), (59, .isub, 1), (60, .ireturn, 1)] : List (Nat × Instr × Nat)), decode cX11_rule e.1 = .ok e.2 := wn_all _ 54 (by decide +kernel)
theorem dX11_rule_54 : decode cX11_rule 54 = .ok (.aload_n 0, 1) := wn_at gdX11_rule_54 0 rfl
theorem dX11_rule_55 : decode cX11_rule 55 = .ok (.getfield 254, 3) := wn_at gdX11_rule_54 1 rfl
theorem dX11_rule_58 : decode cX11_rule 58 = .ok (.iconst 1, 1) := wn_at gdX11_rule_54 2 rfl
theorem dX11_rule_59 : decode cX11_rule 59 = .ok (.isub, 1) := wn_at gdX11_rule_54 3 rfl
theorem dX11_rule_60 : decode cX11_rule 60 = .ok (.ireturn, 1) := wn_at gdX11_rule_54 4 rfl
theorem gdX11_tower_0 : ∀ e ∈ ([(0, .aload_n 0, 1), (1, .bipush 6, 2), (3, .putfield 151, 3), (6, .aload_n 0, 1), (7, .iconst 0, 1), (8, .putfield 223, 3), (11, .aload_n 0, 1), (12, .iconst 0, 1), (13, .putfield 226, 3), (16, .aload_n 0, 1)] : List (Nat × Instr × Nat)), decode cX11_tower e.1 = .ok e.2 := wn_all _ 0 (by decide +kernel)
theorem dX11_tower_0 : decode cX11_tower 0 = .ok (.aload_n 0, 1) := wn_at gdX11_tower_0 0 rfl
theorem dX11_tower_1 : decode cX11_tower 1 = .ok (.bipush 6, 2) := wn_at gdX11_tower_0 1 rfl
theorem dX11_tower_3 : decode cX11_tower 3 = .ok (.putfield 151, 3) := wn_at gdX11_tower_0 2 rfl
theorem dX11_tower_6 : decode cX11_tower 6 = .ok (.aload_n 0, 1) := wn_at gdX11_tower_0 3 rfl
theorem dX11_tower_7 : decode cX11_tower 7 = .ok (.iconst 0, 1) := wn_at gdX11_tower_0 4 rfl
theorem dX11_tower_8 : decode cX11_tower 8 = .ok (.putfield 223, 3) := wn_at gdX11_tower_0 5 rfl
theorem dX11_tower_11 : decode cX11_tower 11 = .ok (.aload_n 0, 1) := wn_at gdX11_tower_0 6 rfl
theorem dX11_tower_12 : decode cX11_tower 12 = .ok (.iconst 0, 1) := wn_at gdX11_tower_0 7 rfl
theorem dX11_tower_13 : decode cX11_tower 13 = .ok (.putfield 226, 3) := wn_at gdX11_tower_0 8 rfl
theorem dX11_tower_16 : decode cX11_tower 16 = .ok (.aload_n 0, 1) := wn_at gdX11_tower_0 9 rfl
theorem gdX11_tower_17 : ∀ e ∈ ([(17, .iconst 0, 1), (18, .putfield 229, 3), (21, .aload_n 0, 1), (22, .invokevirtual 257, 3), (25, .ifCond .ne 11, 3), (28, .bipush (-2), 2), (30, .aload_n 0, 1), (31, .getfield 100, 3), (34, .isub, 1), (35, .ireturn, 1)] : List (Nat × Instr × Nat)), decode cX11_tower e.1 = .ok e.2 := wn_all _ 17 (by decide +kernel)
theorem dX11_tower_17 : decode cX11_tower 17 = .ok (.iconst 0, 1) := wn_at gdX11_tower_17 0 rfl
theorem dX11_tower_18 : decode cX11_tower 18 = .ok (.putfield 229, 3) := wn_at gdX11_tower_17 1 rfl
theorem dX11_tower_21 : decode cX11_tower 21 = .ok (.aload_n 0, 1) := wn_at gdX11_tower_17 2 rfl
theorem dX11_tower_22 : decode cX11_tower 22 = .ok (.invokevirtual 257, 3) := wn_at gdX11_tower_17 3 rfl
theorem dX11_tower_25 : decode cX11_tower 25 = .ok (.ifCond .ne 11, 3) := wn_at gdX11_tower_17 4 rfl
theorem dX11_tower_28 : decode cX11_tower 28 = .ok (.bipush (-2), 2) := wn_at gdX11_tower_17 5 rfl
theorem dX11_tower_30 : decode cX11_tower 30 = .ok (.aload_n 0, 1) := wn_at gdX11_tower_17 6 rfl
theorem dX11_tower_31 : decode cX11_tower 31 = .ok (.getfield 100, 3) := wn_at gdX11_tower_17 7 rfl
theorem dX11_tower_34 : decode cX11_tower 34 = .ok (.isub, 1) := wn_at gdX11_tower_17 8 rfl
theorem dX11_tower_35 : decode cX11_tower 35 = .ok (.ireturn, 1) := wn_at gdX11_tower_17 9 rfl
theorem gdX11_tower_36 : ∀ e ∈ ([(36, .aload_n 0, 1), (37, .getfield 45, 3), (40, .iconst 0, 1), (41, .aload_n 0, 1), (42, .getfield 223, 3), (45, .iastore, 1), (46, .aload_n 0, 1), (47, .getfield 45, 3), (50, .iconst 1, 1), (51, .aload_n 0, 1)] : List (Nat × Instr × Nat)), decode cX11_tower e.1 = .ok e.2 := wn_all _ 36 (by decide +kernel)
theorem dX11_tower_36 : decode cX11_tower 36 = .ok (.aload_n 0, 1) := wn_at gdX11_tower_36 0 rfl
theorem dX11_tower_37 : decode cX11_tower 37 = .ok (.getfield 45, 3) := wn_at gdX11_tower_36 1 rfl
theorem dX11_tower_40 : decode cX11_tower 40 = .ok (.iconst 0, 1) := wn_at gdX11_tower_36 2 rfl
theorem dX11_tower_41 : decode cX11_tower 41 = .ok (.aload_n 0, 1) := wn_at gdX11_tower_36 3 rfl
theorem dX11_tower_42 : decode cX11_tower 42 = .ok (.getfield 223, 3) := wn_at gdX11_tower_36 4 rfl
theorem dX11_tower_45 : decode cX11_tower 45 = .ok (.iastore, 1) := wn_at gdX11_tower_36 5 rfl
theorem dX11_tower_46 : decode cX11_tower 46 = .ok (.aload_n 0, 1) := wn_at gdX11_tower_36 6 rfl
theorem dX11_tower_47 : decode cX11_tower 47 = .ok (.getfield 45, 3) := wn_at gdX11_tower_36 7 rfl
theorem dX11_tower_50 : decode cX11_tower 50 = .ok (.iconst 1, 1) := wn_at gdX11_tower_36 8 rfl
theorem dX11_tower_51 : decode cX11_tower 51 = .ok (.aload_n 0, 1) := wn_at gdX11_tower_36 9 rfl
theorem gdX11_tower_52 : ∀ e ∈ ([(52, .getfield 226, 3), (55, .iastore, 1), (56, .aload_n 0, 1), (57, .getfield 45, 3), (60, .iconst 2, 1), (61, .aload_n 0, 1), (62, .getfield 229, 3), (65, .iastore, 1), (66, .aload_n 0, 1), (67, .getfield 45, 3)] : List (Nat × Instr × Nat)), decode cX11_tower e.1 = .ok e.2 := wn_all _ 52 (by decide +kernel)
theorem dX11_tower_52 : decode cX11_tower 52 = .ok (.getfield 226, 3) := wn_at gdX11_tower_52 0 rfl
theorem dX11_tower_55 : decode cX11_tower 55 = .ok (.iastore, 1) := wn_at gdX11_tower_52 1 rfl
theorem dX11_tower_56 : decode cX11_tower 56 = .ok (.aload_n 0, 1) := wn_at gdX11_tower_52 2 rfl
theorem dX11_tower_57 : decode cX11_tower 57 = .ok (.getfield 45, 3) := wn_at gdX11_tower_52 3 rfl
theorem dX11_tower_60 : decode cX11_tower 60 = .ok (.iconst 2, 1) := wn_at gdX11_tower_52 4 rfl
theorem dX11_tower_61 : decode cX11_tower 61 = .ok (.aload_n 0, 1) := wn_at gdX11_tower_52 5 rfl
theorem dX11_tower_62 : decode cX11_tower 62 = .ok (.getfield 229, 3) := wn_at gdX11_tower_52 6 rfl
theorem dX11_tower_65 : decode cX11_tower 65 = .ok (.iastore, 1) := wn_at gdX11_tower_52 7 rfl
theorem dX11_tower_66 : decode cX11_tower 66 = .ok (.aload_n 0, 1) := wn_at gdX11_tower_52 8 rfl
theorem dX11_tower_67 : decode cX11_tower 67 = .ok (.getfield 45, 3) := wn_at gdX11_tower_52 9 rfl
theorem gdX11_tower_70 : ∀ e ∈ ([(70, .iconst 3, 1), (71, .iconst 0, 1), (72, .iastore, 1), (73, .aload_n 0, 1), (74, .getfield 45, 3), (77, .iconst 4, 1), (78, .iconst 0, 1), (79, .iastore, 1), (80, .iconst 0, 1), (81, .istore_n 1, 1)] : List (Nat × Instr × Nat)), decode cX11_tower e.1 = .ok e.2 := wn_all _ 70 (by decide +kernel)
theorem dX11_tower_70 : decode cX11_tower 70 = .ok (.iconst 3, 1) := wn_at gdX11_tower_70 0 rfl
theorem dX11_tower_71 : decode cX11_tower 71 = .ok (.iconst 0, 1) := wn_at gdX11_tower_70 1 rfl
theorem dX11_tower_72 : decode cX11_tower 72 = .ok (.iastore, 1) := wn_at gdX11_tower_70 2 rfl
theorem dX11_tower_73 : decode cX11_tower 73 = .ok (.aload_n 0, 1) := wn_at gdX11_tower_70 3 rfl
theorem dX11_tower_74 : decode cX11_tower 74 = .ok (.getfield 45, 3) := wn_at gdX11_tower_70 4 rfl
theorem dX11_tower_77 : decode cX11_tower 77 = .ok (.iconst 4, 1) := wn_at gdX11_tower_70 5 rfl
theorem dX11_tower_78 : decode cX11_tower 78 = .ok (.iconst 0, 1) := wn_at gdX11_tower_70 6 rfl
theorem dX11_tower_79 : decode cX11_tower 79 = .ok (.iastore, 1) := wn_at gdX11_tower_70 7 rfl
theorem dX11_tower_80 : decode cX11_tower 80 = .ok (.iconst 0, 1) := wn_at gdX11_tower_70 8 rfl
theorem dX11_tower_81 : decode cX11_tower 81 = .ok (.istore_n 1, 1) := wn_at gdX11_tower_70 9 rfl
theorem gdX11_tower_82 : ∀ e ∈ ([(82, .iload_n 1, 1), (83, .iconst 2, 1), (84, .aload_n 0, 1), (85, .getfield 223, 3), (88, .imul, 1), (89, .if_icmp .ge 24, 3), (92, .aload_n 0, 1), (93, .getfield 45, 3), (96, .bipush 10, 2), (98, .iload_n 1, 1)] : List (Nat × Instr × Nat)), decode cX11_tower e.1 = .ok e.2 := wn_all _ 82 (by decide +kernel)
theorem dX11_tower_82 : decode cX11_tower 82 = .ok (.iload_n 1, 1) := wn_at gdX11_tower_82 0 rfl
theorem dX11_tower_83 : decode cX11_tower 83 = .ok (.iconst 2, 1) := wn_at gdX11_tower_82 1 rfl
theorem dX11_tower_84 : decode cX11_tower 84 = .ok (.aload_n 0, 1) := wn_at gdX11_tower_82 2 rfl
theorem dX11_tower_85 : decode cX11_tower 85 = .ok (.getfield 223, 3) := wn_at gdX11_tower_82 3 rfl
theorem dX11_tower_88 : decode cX11_tower 88 = .ok (.imul, 1) := wn_at gdX11_tower_82 4 rfl
theorem dX11_tower_89 : decode cX11_tower 89 = .ok (.if_icmp .ge 24, 3) := wn_at gdX11_tower_82 5 rfl
theorem dX11_tower_92 : decode cX11_tower 92 = .ok (.aload_n 0, 1) := wn_at gdX11_tower_82 6 rfl
theorem dX11_tower_93 : decode cX11_tower 93 = .ok (.getfield 45, 3) := wn_at gdX11_tower_82 7 rfl
theorem dX11_tower_96 : decode cX11_tower 96 = .ok (.bipush 10, 2) := wn_at gdX11_tower_82 8 rfl
theorem dX11_tower_98 : decode cX11_tower 98 = .ok (.iload_n 1, 1) := wn_at gdX11_tower_82 9 rfl
theorem gdX11_tower_99 : ∀ e ∈ ([(99, .iadd, 1), (100, .aload_n 0, 1), (101, .getfield 26, 3), (104, .iload_n 1, 1), (105, .iaload, 1), (106, .iastore, 1), (107, .iinc 1 1, 3), (110, .goto (-28), 3), (113, .iconst 0, 1), (114, .istore_n 1, 1)] : List (Nat × Instr × Nat)), decode cX11_tower e.1 = .ok e.2 := wn_all _ 99 (by decide +kernel)
theorem dX11_tower_99 : decode cX11_tower 99 = .ok (.iadd, 1) := wn_at gdX11_tower_99 0 rfl
theorem dX11_tower_100 : decode cX11_tower 100 = .ok (.aload_n 0, 1) := wn_at gdX11_tower_99 1 rfl
theorem dX11_tower_101 : decode cX11_tower 101 = .ok (.getfield 26, 3) := wn_at gdX11_tower_99 2 rfl
theorem dX11_tower_104 : decode cX11_tower 104 = .ok (.iload_n 1, 1) := wn_at gdX11_tower_99 3 rfl
theorem dX11_tower_105 : decode cX11_tower 105 = .ok (.iaload, 1) := wn_at gdX11_tower_99 4 rfl
theorem dX11_tower_106 : decode cX11_tower 106 = .ok (.iastore, 1) := wn_at gdX11_tower_99 5 rfl
theorem dX11_tower_107 : decode cX11_tower 107 = .ok (.iinc 1 1, 3) := wn_at gdX11_tower_99 6 rfl
theorem dX11_tower_110 : decode cX11_tower 110 = .ok (.goto (-28), 3) := wn_at gdX11_tower_99 7 rfl
theorem dX11_tower_113 : decode cX11_tower 113 = .ok (.iconst 0, 1) := wn_at gdX11_tower_99 8 rfl
theorem dX11_tower_114 : decode cX11_tower 114 = .ok (.istore_n 1, 1) := wn_at gdX11_tower_99 9 rfl
theorem gdX11_tower_115 : ∀ e ∈ ([(115, .iload_n 1, 1), (116, .iconst 5, 1), (117, .aload_n 0, 1), (118, .getfield 226, 3), (121, .imul, 1), (122, .if_icmp .ge 24, 3), (125, .aload_n 0, 1), (126, .getfield 45, 3), (129, .bipush 30, 2), (131, .iload_n 1, 1)] : List (Nat × Instr × Nat)), decode cX11_tower e.1 = .ok e.2 := wn_all _ 115 (by decide +kernel)
theorem dX11_tower_115 : decode cX11_tower 115 = .ok (.iload_n 1, 1) := wn_at gdX11_tower_115 0 rfl
theorem dX11_tower_116 : decode cX11_tower 116 = .ok (.iconst 5, 1) := wn_at gdX11_tower_115 1 rfl
theorem dX11_tower_117 : decode cX11_tower 117 = .ok (.aload_n 0, 1) := wn_at gdX11_tower_115 2 rfl
theorem dX11_tower_118 : decode cX11_tower 118 = .ok (.getfield 226, 3) := wn_at gdX11_tower_115 3 rfl
theorem dX11_tower_121 : decode cX11_tower 121 = .ok (.imul, 1) := wn_at gdX11_tower_115 4 rfl
theorem dX11_tower_122 : decode cX11_tower 122 = .ok (.if_icmp .ge 24, 3) := wn_at gdX11_tower_115 5 rfl
theorem dX11_tower_125 : decode cX11_tower 125 = .ok (.aload_n 0, 1) := wn_at gdX11_tower_115 6 rfl
theorem dX11_tower_126 : decode cX11_tower 126 = .ok (.getfield 45, 3) := wn_at gdX11_tower_115 7 rfl
theorem dX11_tower_129 : decode cX11_tower 129 = .ok (.bipush 30, 2) := wn_at gdX11_tower_115 8 rfl
theorem dX11_tower_131 : decode cX11_tower 131 = .ok (.iload_n 1, 1) := wn_at gdX11_tower_115 9 rfl
theorem gdX11_tower_132 : ∀ e ∈ ([(132, .iadd, 1), (133, .aload_n 0, 1), (134, .getfield 29, 3), (137, .iload_n 1, 1), (138, .iaload, 1), (139, .iastore, 1), (140, .iinc 1 1, 3), (143, .goto (-28), 3), (146, .iconst 0, 1), (147, .istore_n 1, 1)] : List (Nat × Instr × Nat)), decode cX11_tower e.1 = .ok e.2 := wn_all _ 132 (by decide +kernel)
theorem dX11_tower_132 : decode cX11_tower 132 = .ok (.iadd, 1) := wn_at gdX11_tower_132 0 rfl
theorem dX11_tower_133 : decode cX11_tower 133 = .ok (.aload_n 0, 1) := wn_at gdX11_tower_132 1 rfl
theorem dX11_tower_134 : decode cX11_tower 134 = .ok (.getfield 29, 3) := wn_at gdX11_tower_132 2 rfl
theorem dX11_tower_137 : decode cX11_tower 137 = .ok (.iload_n 1, 1) := wn_at gdX11_tower_132 3 rfl
theorem dX11_tower_138 : decode cX11_tower 138 = .ok (.iaload, 1) := wn_at gdX11_tower_132 4 rfl
theorem dX11_tower_139 : decode cX11_tower 139 = .ok (.iastore, 1) := wn_at gdX11_tower_132 5 rfl
theorem dX11_tower_140 : decode cX11_tower 140 = .ok (.iinc 1 1, 3) := wn_at gdX11_tower_132 6 rfl
theorem dX11_tower_143 : decode cX11_tower 143 = .ok (.goto (-28), 3) := wn_at gdX11_tower_132 7 rfl
theorem dX11_tower_146 : decode cX11_tower 146 = .ok (.iconst 0, 1) := wn_at gdX11_tower_132 8 rfl
theorem dX11_tower_147 : decode cX11_tower 147 = .ok (.istore_n 1, 1) := wn_at gdX11_tower_132 9 rfl
theorem gdX11_tower_148 : ∀ e ∈ ([(148, .iload_n 1, 1), (149, .aload_n 0, 1), (150, .getfield 229, 3), (153, .if_icmp .ge 27, 3), (156, .aload_n 0, 1), (157, .iload_n 1, 1), (158, .aload_n 0, 1), (159, .getfield 32, 3), (162, .iload_n 1, 1), (163, .iaload, 1)] : List (Nat × Instr × Nat)), decode cX11_tower e.1 = .ok e.2 := wn_all _ 148 (by decide +kernel)
theorem dX11_tower_148 : decode cX11_tower 148 = .ok (.iload_n 1, 1) := wn_at gdX11_tower_148 0 rfl
theorem dX11_tower_149 : decode cX11_tower 149 = .ok (.aload_n 0, 1) := wn_at gdX11_tower_148 1 rfl
theorem dX11_tower_150 : decode cX11_tower 150 = .ok (.getfield 229, 3) := wn_at gdX11_tower_148 2 rfl
theorem dX11_tower_153 : decode cX11_tower 153 = .ok (.if_icmp .ge 27, 3) := wn_at gdX11_tower_148 3 rfl
theorem dX11_tower_156 : decode cX11_tower 156 = .ok (.aload_n 0, 1) := wn_at gdX11_tower_148 4 rfl
theorem dX11_tower_157 : decode cX11_tower 157 = .ok (.iload_n 1, 1) := wn_at gdX11_tower_148 5 rfl
theorem dX11_tower_158 : decode cX11_tower 158 = .ok (.aload_n 0, 1) := wn_at gdX11_tower_148 6 rfl
theorem dX11_tower_159 : decode cX11_tower 159 = .ok (.getfield 32, 3) := wn_at gdX11_tower_148 7 rfl
theorem dX11_tower_162 : decode cX11_tower 162 = .ok (.iload_n 1, 1) := wn_at gdX11_tower_148 8 rfl
theorem dX11_tower_163 : decode cX11_tower 163 = .ok (.iaload, 1) := wn_at gdX11_tower_148 9 rfl
theorem gdX11_tower_164 : ∀ e ∈ ([(164, .invokevirtual 260, 3), (167, .aload_n 0, 1), (168, .getfield 48, 3), (171, .iload_n 1, 1), (172, .lconst 0, 1), (173, .lastore, 1), (174, .iinc 1 1, 3), (177, .goto (-29), 3), (180, .aload_n 0, 1), (181, .invokevirtual 263, 3)] : List (Nat × Instr × Nat)), decode cX11_tower e.1 = .ok e.2 := wn_all _ 164 (by decide +kernel)
theorem dX11_tower_164 : decode cX11_tower 164 = .ok (.invokevirtual 260, 3) := wn_at gdX11_tower_164 0 rfl
theorem dX11_tower_167 : decode cX11_tower 167 = .ok (.aload_n 0, 1) := wn_at gdX11_tower_164 1 rfl
theorem dX11_tower_168 : decode cX11_tower 168 = .ok (.getfield 48, 3) := wn_at gdX11_tower_164 2 rfl
theorem dX11_tower_171 : decode cX11_tower 171 = .ok (.iload_n 1, 1) := wn_at gdX11_tower_164 3 rfl
theorem dX11_tower_172 : decode cX11_tower 172 = .ok (.lconst 0, 1) := wn_at gdX11_tower_164 4 rfl
theorem dX11_tower_173 : decode cX11_tower 173 = .ok (.lastore, 1) := wn_at gdX11_tower_164 5 rfl
theorem dX11_tower_174 : decode cX11_tower 174 = .ok (.iinc 1 1, 3) := wn_at gdX11_tower_164 6 rfl
theorem dX11_tower_177 : decode cX11_tower 177 = .ok (.goto (-29), 3) := wn_at gdX11_tower_164 7 rfl
theorem dX11_tower_180 : decode cX11_tower 180 = .ok (.aload_n 0, 1) := wn_at gdX11_tower_164 8 rfl
theorem dX11_tower_181 : decode cX11_tower 181 = .ok (.invokevirtual 263, 3) := wn_at gdX11_tower_164 9 rfl
theorem gdX11_tower_184 : ∀ e ∈ ([(184, .aload_n 0, 1), (185, .getfield 223, 3), (188, .ireturn, 1)] : List (Nat × Instr × Nat)), decode cX11_tower e.1 = .ok e.2 := wn_all _ 184 (by decide +kernel)
theorem dX11_tower_184 : decode cX11_tower 184 = .ok (.aload_n 0, 1) := wn_at gdX11_tower_184 0 rfl
theorem dX11_tower_185 : decode cX11_tower 185 = .ok (.getfield 223, 3) := wn_at gdX11_tower_184 1 rfl
theorem dX11_tower_188 : decode cX11_tower 188 = .ok (.ireturn, 1) := wn_at gdX11_tower_184 2 rfl
theorem gdX11_isRule_0 : ∀ e ∈ ([(0, .iload_n 1, 1), (1, .ifCond .lt 15, 3), (4, .iload_n 1, 1), (5, .aload_n 0, 1), (6, .getfield 254, 3), (9, .if_icmp .ge 7, 3), (12, .iconst 1, 1), (13, .goto 4, 3), (16, .iconst 0, 1), (17, .ireturn, 1)] : List (Nat × Instr × Nat)), decode cX11_isRule e.1 = .ok e.2 := wn_all _ 0 (by decide +kernel)
theorem dX11_isRule_0 : decode cX11_isRule 0 = .ok (.iload_n 1, 1) := wn_at gdX11_isRule_0 0 rfl
theorem dX11_isRule_1 : decode cX11_isRule 1 = .ok (.ifCond .lt 15, 3) := wn_at gdX11_isRule_0 1 rfl
theorem dX11_isRule_4 : decode cX11_isRule 4 = .ok (.iload_n 1, 1) := wn_at gdX11_isRule_0 2 rfl
theorem dX11_isRule_5 : decode cX11_isRule 5 = .ok (.aload_n 0, 1) := wn_at gdX11_isRule_0 3 rfl
theorem dX11_isRule_6 : decode cX11_isRule 6 = .ok (.getfield 254, 3) := wn_at gdX11_isRule_0 4 rfl
theorem dX11_isRule_9 : decode cX11_isRule 9 = .ok (.if_icmp .ge 7, 3) := wn_at gdX11_isRule_0 5 rfl
theorem dX11_isRule_12 : decode cX11_isRule 12 = .ok (.iconst 1, 1) := wn_at gdX11_isRule_0 6 rfl
theorem dX11_isRule_13 : decode cX11_isRule 13 = .ok (.goto 4, 3) := wn_at gdX11_isRule_0 7 rfl
theorem dX11_isRule_16 : decode cX11_isRule 16 = .ok (.iconst 0, 1) := wn_at gdX11_isRule_0 8 rfl
theorem dX11_isRule_17 : decode cX11_isRule 17 = .ok (.ireturn, 1) := wn_at gdX11_isRule_0 9 rfl
theorem gdX11_push_0 : ∀ e ∈ ([(0, .aload_n 0, 1), (1, .getfield 38, 3), (4, .aload_n 0, 1), (5, .getfield 266, 3), (8, .lload_n 1, 1), (9, .lastore, 1), (10, .aload_n 0, 1), (11, .dup, 1), (12, .getfield 266, 3), (15, .iconst 1, 1)] : List (Nat × Instr × Nat)), decode cX11_push e.1 = .ok e.2 := wn_all _ 0 (by decide +kernel)
theorem dX11_push_0 : decode cX11_push 0 = .ok (.aload_n 0, 1) := wn_at gdX11_push_0 0 rfl
theorem dX11_push_1 : decode cX11_push 1 = .ok (.getfield 38, 3) := wn_at gdX11_push_0 1 rfl
theorem dX11_push_4 : decode cX11_push 4 = .ok (.aload_n 0, 1) := wn_at gdX11_push_0 2 rfl
theorem dX11_push_5 : decode cX11_push 5 = .ok (.getfield 266, 3) := wn_at gdX11_push_0 3 rfl
theorem dX11_push_8 : decode cX11_push 8 = .ok (.lload_n 1, 1) := wn_at gdX11_push_0 4 rfl
theorem dX11_push_9 : decode cX11_push 9 = .ok (.lastore, 1) := wn_at gdX11_push_0 5 rfl
theorem dX11_push_10 : decode cX11_push 10 = .ok (.aload_n 0, 1) := wn_at gdX11_push_0 6 rfl
theorem dX11_push_11 : decode cX11_push 11 = .ok (.dup, 1) := wn_at gdX11_push_0 7 rfl
theorem dX11_push_12 : decode cX11_push 12 = .ok (.getfield 266, 3) := wn_at gdX11_push_0 8 rfl
theorem dX11_push_15 : decode cX11_push 15 = .ok (.iconst 1, 1) := wn_at gdX11_push_0 9 rfl
theorem gdX11_push_16 : ∀ e ∈ ([(16, .iadd, 1), (17, .putfield 266, 3), (20, .return_, 1)] : List (Nat × Instr × Nat)), decode cX11_push e.1 = .ok e.2 := wn_all _ 16 (by decide +kernel)
theorem dX11_push_16 : decode cX11_push 16 = .ok (.iadd, 1) := wn_at gdX11_push_16 0 rfl
theorem dX11_push_17 : decode cX11_push 17 = .ok (.putfield 266, 3) := wn_at gdX11_push_16 1 rfl
theorem dX11_push_20 : decode cX11_push 20 = .ok (.return_, 1) := wn_at gdX11_push_16 2 rfl
theorem gdX11_pop_0 : ∀ e ∈ ([(0, .aload_n 0, 1), (1, .dup, 1), (2, .getfield 266, 3), (5, .iconst 1, 1), (6, .isub, 1), (7, .putfield 266, 3), (10, .aload_n 0, 1), (11, .getfield 38, 3), (14, .aload_n 0, 1), (15, .getfield 266, 3)] : List (Nat × Instr × Nat)), decode cX11_pop e.1 = .ok e.2 := wn_all _ 0 (by decide +kernel)
theorem dX11_pop_0 : decode cX11_pop 0 = .ok (.aload_n 0, 1) := wn_at gdX11_pop_0 0 rfl
theorem dX11_pop_1 : decode cX11_pop 1 = .ok (.dup, 1) := wn_at gdX11_pop_0 1 rfl
theorem dX11_pop_2 : decode cX11_pop 2 = .ok (.getfield 266, 3) := wn_at gdX11_pop_0 2 rfl
theorem dX11_pop_5 : decode cX11_pop 5 = .ok (.iconst 1, 1) := wn_at gdX11_pop_0 3 rfl
theorem dX11_pop_6 : decode cX11_pop 6 = .ok (.isub, 1) := wn_at gdX11_pop_0 4 rfl
theorem dX11_pop_7 : decode cX11_pop 7 = .ok (.putfield 266, 3) := wn_at gdX11_pop_0 5 rfl
theorem dX11_pop_10 : decode cX11_pop 10 = .ok (.aload_n 0, 1) := wn_at gdX11_pop_0 6 rfl
theorem dX11_pop_11 : decode cX11_pop 11 = .ok (.getfield 38, 3) := wn_at gdX11_pop_0 7 rfl
theorem dX11_pop_14 : decode cX11_pop 14 = .ok (.aload_n 0, 1) := wn_at gdX11_pop_0 8 rfl
theorem dX11_pop_15 : decode cX11_pop 15 = .ok (.getfield 266, 3) := wn_at gdX11_pop_0 9 rfl
theorem gdX11_pop_18 : ∀ e ∈ ([(18, .laload, 1), (19, .lreturn, 1)] : List (Nat × Instr × Nat)), decode cX11_pop e.1 = .ok e.2 := wn_all _ 18 (by decide +kernel)
theorem dX11_pop_18 : decode cX11_pop 18 = .ok (.laload, 1) := wn_at gdX11_pop_18 0 rfl
theorem dX11_pop_19 : decode cX11_pop 19 = .ok (.lreturn, 1) := wn_at gdX11_pop_18 1 rfl
theorem gdX11_one_0 : ∀ e ∈ ([(0, .iload_n 0, 1)] : List (Nat × Instr × Nat)), decode cX11_one e.1 = .ok e.2 := wn_all _ 0 (by decide +kernel)
theorem dX11_one_0 : decode cX11_one 0 = .ok (.iload_n 0, 1) := wn_at gdX11_one_0 0 rfl
theorem dX11_one_1 : decode cX11_one 1 = .ok (.tableswitch 149 2 12 #[59, 63, 67, 71, 85, 97, 109, 121, 133, 149, 145], 59) := by decide +kernel
theorem gdX11_one_60 : ∀ e ∈ ([(60, .lload_n 1, 1), (61, .lload_n 3, 1), (62, .ladd, 1), (63, .lreturn, 1), (64, .lload_n 1, 1), (65, .lload_n 3, 1), (66, .lsub, 1), (67, .lreturn, 1), (68, .lload_n 1, 1), (69, .lload_n 3, 1)] : List (Nat × Instr × Nat)), decode cX11_one e.1 = .ok e.2 := wn_all _ 60 (by decide +kernel)
theorem dX11_one_60 : decode cX11_one 60 = .ok (.lload_n 1, 1) := wn_at gdX11_one_60 0 rfl
theorem dX11_one_61 : decode cX11_one 61 = .ok (.lload_n 3, 1) := wn_at gdX11_one_60 1 rfl
theorem dX11_one_62 : decode cX11_one 62 = .ok (.ladd, 1) := wn_at gdX11_one_60 2 rfl
theorem dX11_one_63 : decode cX11_one 63 = .ok (.lreturn, 1) := wn_at gdX11_one_60 3 rfl
theorem dX11_one_64 : decode cX11_one 64 = .ok (.lload_n 1, 1) := wn_at gdX11_one_60 4 rfl
theorem dX11_one_65 : decode cX11_one 65 = .ok (.lload_n 3, 1) := wn_at gdX11_one_60 5 rfl
theorem dX11_one_66 : decode cX11_one 66 = .ok (.lsub, 1) := wn_at gdX11_one_60 6 rfl
theorem dX11_one_67 : decode cX11_one 67 = .ok (.lreturn, 1) := wn_at gdX11_one_60 7 rfl
theorem dX11_one_68 : decode cX11_one 68 = .ok (.lload_n 1, 1) := wn_at gdX11_one_60 8 rfl
theorem dX11_one_69 : decode cX11_one 69 = .ok (.lload_n 3, 1) := wn_at gdX11_one_60 9 rfl
theorem gdX11_one_70 : ∀ e ∈ ([(70, .lmul, 1), (71, .lreturn, 1), (72, .lload_n 3, 1), (73, .lconst 0, 1), (74, .lcmp, 1), (75, .ifCond .ne 7, 3), (78, .lconst 0, 1), (79, .goto 6, 3), (82, .lload_n 1, 1), (83, .lload_n 3, 1)] : List (Nat × Instr × Nat)), decode cX11_one e.1 = .ok e.2 := wn_all _ 70 (by decide +kernel)
theorem dX11_one_70 : decode cX11_one 70 = .ok (.lmul, 1) := wn_at gdX11_one_70 0 rfl
theorem dX11_one_71 : decode cX11_one 71 = .ok (.lreturn, 1) := wn_at gdX11_one_70 1 rfl
theorem dX11_one_72 : decode cX11_one 72 = .ok (.lload_n 3, 1) := wn_at gdX11_one_70 2 rfl
theorem dX11_one_73 : decode cX11_one 73 = .ok (.lconst 0, 1) := wn_at gdX11_one_70 3 rfl
theorem dX11_one_74 : decode cX11_one 74 = .ok (.lcmp, 1) := wn_at gdX11_one_70 4 rfl
theorem dX11_one_75 : decode cX11_one 75 = .ok (.ifCond .ne 7, 3) := wn_at gdX11_one_70 5 rfl
theorem dX11_one_78 : decode cX11_one 78 = .ok (.lconst 0, 1) := wn_at gdX11_one_70 6 rfl
theorem dX11_one_79 : decode cX11_one 79 = .ok (.goto 6, 3) := wn_at gdX11_one_70 7 rfl
theorem dX11_one_82 : decode cX11_one 82 = .ok (.lload_n 1, 1) := wn_at gdX11_one_70 8 rfl
theorem dX11_one_83 : decode cX11_one 83 = .ok (.lload_n 3, 1) := wn_at gdX11_one_70 9 rfl
theorem gdX11_one_84 : ∀ e ∈ ([(84, .ldiv, 1), (85, .lreturn, 1), (86, .lload_n 1, 1), (87, .lload_n 3, 1), (88, .lcmp, 1), (89, .ifCond .ge 7, 3), (92, .lconst 1, 1), (93, .goto 4, 3), (96, .lconst 0, 1), (97, .lreturn, 1)] : List (Nat × Instr × Nat)), decode cX11_one e.1 = .ok e.2 := wn_all _ 84 (by decide +kernel)
theorem dX11_one_84 : decode cX11_one 84 = .ok (.ldiv, 1) := wn_at gdX11_one_84 0 rfl
theorem dX11_one_85 : decode cX11_one 85 = .ok (.lreturn, 1) := wn_at gdX11_one_84 1 rfl
theorem dX11_one_86 : decode cX11_one 86 = .ok (.lload_n 1, 1) := wn_at gdX11_one_84 2 rfl
theorem dX11_one_87 : decode cX11_one 87 = .ok (.lload_n 3, 1) := wn_at gdX11_one_84 3 rfl
theorem dX11_one_88 : decode cX11_one 88 = .ok (.lcmp, 1) := wn_at gdX11_one_84 4 rfl
theorem dX11_one_89 : decode cX11_one 89 = .ok (.ifCond .ge 7, 3) := wn_at gdX11_one_84 5 rfl
theorem dX11_one_92 : decode cX11_one 92 = .ok (.lconst 1, 1) := wn_at gdX11_one_84 6 rfl
theorem dX11_one_93 : decode cX11_one 93 = .ok (.goto 4, 3) := wn_at gdX11_one_84 7 rfl
theorem dX11_one_96 : decode cX11_one 96 = .ok (.lconst 0, 1) := wn_at gdX11_one_84 8 rfl
theorem dX11_one_97 : decode cX11_one 97 = .ok (.lreturn, 1) := wn_at gdX11_one_84 9 rfl
theorem gdX11_one_98 : ∀ e ∈ ([(98, .lload_n 1, 1), (99, .lload_n 3, 1), (100, .lcmp, 1), (101, .ifCond .gt 7, 3), (104, .lconst 1, 1), (105, .goto 4, 3), (108, .lconst 0, 1), (109, .lreturn, 1), (110, .lload_n 1, 1), (111, .lload_n 3, 1)] : List (Nat × Instr × Nat)), decode cX11_one e.1 = .ok e.2 := wn_all _ 98 (by decide +kernel)
theorem dX11_one_98 : decode cX11_one 98 = .ok (.lload_n 1, 1) := wn_at gdX11_one_98 0 rfl
theorem dX11_one_99 : decode cX11_one 99 = .ok (.lload_n 3, 1) := wn_at gdX11_one_98 1 rfl
theorem dX11_one_100 : decode cX11_one 100 = .ok (.lcmp, 1) := wn_at gdX11_one_98 2 rfl
theorem dX11_one_101 : decode cX11_one 101 = .ok (.ifCond .gt 7, 3) := wn_at gdX11_one_98 3 rfl
theorem dX11_one_104 : decode cX11_one 104 = .ok (.lconst 1, 1) := wn_at gdX11_one_98 4 rfl
theorem dX11_one_105 : decode cX11_one 105 = .ok (.goto 4, 3) := wn_at gdX11_one_98 5 rfl
theorem dX11_one_108 : decode cX11_one 108 = .ok (.lconst 0, 1) := wn_at gdX11_one_98 6 rfl
theorem dX11_one_109 : decode cX11_one 109 = .ok (.lreturn, 1) := wn_at gdX11_one_98 7 rfl
theorem dX11_one_110 : decode cX11_one 110 = .ok (.lload_n 1, 1) := wn_at gdX11_one_98 8 rfl
theorem dX11_one_111 : decode cX11_one 111 = .ok (.lload_n 3, 1) := wn_at gdX11_one_98 9 rfl
theorem gdX11_one_112 : ∀ e ∈ ([(112, .lcmp, 1), (113, .ifCond .ne 7, 3), (116, .lconst 1, 1), (117, .goto 4, 3), (120, .lconst 0, 1), (121, .lreturn, 1), (122, .lload_n 1, 1), (123, .lload_n 3, 1), (124, .lcmp, 1), (125, .ifCond .lt 7, 3)] : List (Nat × Instr × Nat)), decode cX11_one e.1 = .ok e.2 := wn_all _ 112 (by decide +kernel)
theorem dX11_one_112 : decode cX11_one 112 = .ok (.lcmp, 1) := wn_at gdX11_one_112 0 rfl
theorem dX11_one_113 : decode cX11_one 113 = .ok (.ifCond .ne 7, 3) := wn_at gdX11_one_112 1 rfl
theorem dX11_one_116 : decode cX11_one 116 = .ok (.lconst 1, 1) := wn_at gdX11_one_112 2 rfl
theorem dX11_one_117 : decode cX11_one 117 = .ok (.goto 4, 3) := wn_at gdX11_one_112 3 rfl
theorem dX11_one_120 : decode cX11_one 120 = .ok (.lconst 0, 1) := wn_at gdX11_one_112 4 rfl
theorem dX11_one_121 : decode cX11_one 121 = .ok (.lreturn, 1) := wn_at gdX11_one_112 5 rfl
theorem dX11_one_122 : decode cX11_one 122 = .ok (.lload_n 1, 1) := wn_at gdX11_one_112 6 rfl
theorem dX11_one_123 : decode cX11_one 123 = .ok (.lload_n 3, 1) := wn_at gdX11_one_112 7 rfl
theorem dX11_one_124 : decode cX11_one 124 = .ok (.lcmp, 1) := wn_at gdX11_one_112 8 rfl
theorem dX11_one_125 : decode cX11_one 125 = .ok (.ifCond .lt 7, 3) := wn_at gdX11_one_112 9 rfl
theorem gdX11_one_128 : ∀ e ∈ ([(128, .lconst 1, 1), (129, .goto 4, 3), (132, .lconst 0, 1), (133, .lreturn, 1), (134, .lload_n 1, 1), (135, .lload_n 3, 1), (136, .lcmp, 1), (137, .ifCond .le 7, 3), (140, .lconst 1, 1), (141, .goto 4, 3)] : List (Nat × Instr × Nat)), decode cX11_one e.1 = .ok e.2 := wn_all _ 128 (by decide +kernel)
theorem dX11_one_128 : decode cX11_one 128 = .ok (.lconst 1, 1) := wn_at gdX11_one_128 0 rfl
theorem dX11_one_129 : decode cX11_one 129 = .ok (.goto 4, 3) := wn_at gdX11_one_128 1 rfl
theorem dX11_one_132 : decode cX11_one 132 = .ok (.lconst 0, 1) := wn_at gdX11_one_128 2 rfl
theorem dX11_one_133 : decode cX11_one 133 = .ok (.lreturn, 1) := wn_at gdX11_one_128 3 rfl
theorem dX11_one_134 : decode cX11_one 134 = .ok (.lload_n 1, 1) := wn_at gdX11_one_128 4 rfl
theorem dX11_one_135 : decode cX11_one 135 = .ok (.lload_n 3, 1) := wn_at gdX11_one_128 5 rfl
theorem dX11_one_136 : decode cX11_one 136 = .ok (.lcmp, 1) := wn_at gdX11_one_128 6 rfl
theorem dX11_one_137 : decode cX11_one 137 = .ok (.ifCond .le 7, 3) := wn_at gdX11_one_128 7 rfl
theorem dX11_one_140 : decode cX11_one 140 = .ok (.lconst 1, 1) := wn_at gdX11_one_128 8 rfl
theorem dX11_one_141 : decode cX11_one 141 = .ok (.goto 4, 3) := wn_at gdX11_one_128 9 rfl
theorem gdX11_one_144 : ∀ e ∈ ([(144, .lconst 0, 1), (145, .lreturn, 1), (146, .lload_n 1, 1), (147, .lload_n 3, 1), (148, .land, 1), (149, .lreturn, 1), (150, .lload_n 1, 1), (151, .lload_n 3, 1), (152, .lor, 1), (153, .lreturn, 1)] : List (Nat × Instr × Nat)), decode cX11_one e.1 = .ok e.2 := wn_all _ 144 (by decide +kernel)
theorem dX11_one_144 : decode cX11_one 144 = .ok (.lconst 0, 1) := wn_at gdX11_one_144 0 rfl
theorem dX11_one_145 : decode cX11_one 145 = .ok (.lreturn, 1) := wn_at gdX11_one_144 1 rfl
theorem dX11_one_146 : decode cX11_one 146 = .ok (.lload_n 1, 1) := wn_at gdX11_one_144 2 rfl
theorem dX11_one_147 : decode cX11_one 147 = .ok (.lload_n 3, 1) := wn_at gdX11_one_144 3 rfl
theorem dX11_one_148 : decode cX11_one 148 = .ok (.land, 1) := wn_at gdX11_one_144 4 rfl
theorem dX11_one_149 : decode cX11_one 149 = .ok (.lreturn, 1) := wn_at gdX11_one_144 5 rfl
theorem dX11_one_150 : decode cX11_one 150 = .ok (.lload_n 1, 1) := wn_at gdX11_one_144 6 rfl
theorem dX11_one_151 : decode cX11_one 151 = .ok (.lload_n 3, 1) := wn_at gdX11_one_144 7 rfl
theorem dX11_one_152 : decode cX11_one 152 = .ok (.lor, 1) := wn_at gdX11_one_144 8 rfl
theorem dX11_one_153 : decode cX11_one 153 = .ok (.lreturn, 1) := wn_at gdX11_one_144 9 rfl
theorem gdX11_reckons_0 : ∀ e ∈ ([(0, .aload_n 0, 1), (1, .iconst 0, 1), (2, .putfield 266, 3), (5, .iload_n 2, 1), (6, .istore 4, 2), (8, .iload 4, 2), (10, .iload_n 3, 1), (11, .if_icmp .ge 124, 3), (14, .aload_n 0, 1), (15, .getfield 13, 3)] : List (Nat × Instr × Nat)), decode cX11_reckons e.1 = .ok e.2 := wn_all _ 0 (by decide +kernel)
theorem dX11_reckons_0 : decode cX11_reckons 0 = .ok (.aload_n 0, 1) := wn_at gdX11_reckons_0 0 rfl
theorem dX11_reckons_1 : decode cX11_reckons 1 = .ok (.iconst 0, 1) := wn_at gdX11_reckons_0 1 rfl
theorem dX11_reckons_2 : decode cX11_reckons 2 = .ok (.putfield 266, 3) := wn_at gdX11_reckons_0 2 rfl
theorem dX11_reckons_5 : decode cX11_reckons 5 = .ok (.iload_n 2, 1) := wn_at gdX11_reckons_0 3 rfl
theorem dX11_reckons_6 : decode cX11_reckons 6 = .ok (.istore 4, 2) := wn_at gdX11_reckons_0 4 rfl
theorem dX11_reckons_8 : decode cX11_reckons 8 = .ok (.iload 4, 2) := wn_at gdX11_reckons_0 5 rfl
theorem dX11_reckons_10 : decode cX11_reckons 10 = .ok (.iload_n 3, 1) := wn_at gdX11_reckons_0 6 rfl
theorem dX11_reckons_11 : decode cX11_reckons 11 = .ok (.if_icmp .ge 124, 3) := wn_at gdX11_reckons_0 7 rfl
theorem dX11_reckons_14 : decode cX11_reckons 14 = .ok (.aload_n 0, 1) := wn_at gdX11_reckons_0 8 rfl
theorem dX11_reckons_15 : decode cX11_reckons 15 = .ok (.getfield 13, 3) := wn_at gdX11_reckons_0 9 rfl
theorem gdX11_reckons_18 : ∀ e ∈ ([(18, .sipush 400, 3), (21, .iload_n 1, 1), (22, .imul, 1), (23, .iload 4, 2), (25, .iadd, 1), (26, .iaload, 1), (27, .bipush 15, 2), (29, .iand, 1), (30, .istore 5, 2), (32, .aload_n 0, 1)] : List (Nat × Instr × Nat)), decode cX11_reckons e.1 = .ok e.2 := wn_all _ 18 (by decide +kernel)
theorem dX11_reckons_18 : decode cX11_reckons 18 = .ok (.sipush 400, 3) := wn_at gdX11_reckons_18 0 rfl
theorem dX11_reckons_21 : decode cX11_reckons 21 = .ok (.iload_n 1, 1) := wn_at gdX11_reckons_18 1 rfl
theorem dX11_reckons_22 : decode cX11_reckons 22 = .ok (.imul, 1) := wn_at gdX11_reckons_18 2 rfl
theorem dX11_reckons_23 : decode cX11_reckons 23 = .ok (.iload 4, 2) := wn_at gdX11_reckons_18 3 rfl
theorem dX11_reckons_25 : decode cX11_reckons 25 = .ok (.iadd, 1) := wn_at gdX11_reckons_18 4 rfl
theorem dX11_reckons_26 : decode cX11_reckons 26 = .ok (.iaload, 1) := wn_at gdX11_reckons_18 5 rfl
theorem dX11_reckons_27 : decode cX11_reckons 27 = .ok (.bipush 15, 2) := wn_at gdX11_reckons_18 6 rfl
theorem dX11_reckons_29 : decode cX11_reckons 29 = .ok (.iand, 1) := wn_at gdX11_reckons_18 7 rfl
theorem dX11_reckons_30 : decode cX11_reckons 30 = .ok (.istore 5, 2) := wn_at gdX11_reckons_18 8 rfl
theorem dX11_reckons_32 : decode cX11_reckons 32 = .ok (.aload_n 0, 1) := wn_at gdX11_reckons_18 9 rfl
theorem gdX11_reckons_33 : ∀ e ∈ ([(33, .getfield 13, 3), (36, .sipush 400, 3), (39, .iload_n 1, 1), (40, .imul, 1), (41, .iload 4, 2), (43, .iadd, 1), (44, .iaload, 1), (45, .iconst 4, 1), (46, .ishr, 1), (47, .istore 6, 2)] : List (Nat × Instr × Nat)), decode cX11_reckons e.1 = .ok e.2 := wn_all _ 33 (by decide +kernel)
theorem dX11_reckons_33 : decode cX11_reckons 33 = .ok (.getfield 13, 3) := wn_at gdX11_reckons_33 0 rfl
theorem dX11_reckons_36 : decode cX11_reckons 36 = .ok (.sipush 400, 3) := wn_at gdX11_reckons_33 1 rfl
theorem dX11_reckons_39 : decode cX11_reckons 39 = .ok (.iload_n 1, 1) := wn_at gdX11_reckons_33 2 rfl
theorem dX11_reckons_40 : decode cX11_reckons 40 = .ok (.imul, 1) := wn_at gdX11_reckons_33 3 rfl
theorem dX11_reckons_41 : decode cX11_reckons 41 = .ok (.iload 4, 2) := wn_at gdX11_reckons_33 4 rfl
theorem dX11_reckons_43 : decode cX11_reckons 43 = .ok (.iadd, 1) := wn_at gdX11_reckons_33 5 rfl
theorem dX11_reckons_44 : decode cX11_reckons 44 = .ok (.iaload, 1) := wn_at gdX11_reckons_33 6 rfl
theorem dX11_reckons_45 : decode cX11_reckons 45 = .ok (.iconst 4, 1) := wn_at gdX11_reckons_33 7 rfl
theorem dX11_reckons_46 : decode cX11_reckons 46 = .ok (.ishr, 1) := wn_at gdX11_reckons_33 8 rfl
theorem dX11_reckons_47 : decode cX11_reckons 47 = .ok (.istore 6, 2) := wn_at gdX11_reckons_33 9 rfl
theorem gdX11_reckons_49 : ∀ e ∈ ([(49, .iload 5, 2), (51, .ifCond .ne 13, 3), (54, .aload_n 0, 1), (55, .iload 6, 2), (57, .i2l, 1), (58, .invokevirtual 269, 3), (61, .goto 68, 3), (64, .iload 5, 2), (66, .iconst 1, 1), (67, .if_icmp .ne 17, 3)] : List (Nat × Instr × Nat)), decode cX11_reckons e.1 = .ok e.2 := wn_all _ 49 (by decide +kernel)
theorem dX11_reckons_49 : decode cX11_reckons 49 = .ok (.iload 5, 2) := wn_at gdX11_reckons_49 0 rfl
theorem dX11_reckons_51 : decode cX11_reckons 51 = .ok (.ifCond .ne 13, 3) := wn_at gdX11_reckons_49 1 rfl
theorem dX11_reckons_54 : decode cX11_reckons 54 = .ok (.aload_n 0, 1) := wn_at gdX11_reckons_49 2 rfl
theorem dX11_reckons_55 : decode cX11_reckons 55 = .ok (.iload 6, 2) := wn_at gdX11_reckons_49 3 rfl
theorem dX11_reckons_57 : decode cX11_reckons 57 = .ok (.i2l, 1) := wn_at gdX11_reckons_49 4 rfl
theorem dX11_reckons_58 : decode cX11_reckons 58 = .ok (.invokevirtual 269, 3) := wn_at gdX11_reckons_49 5 rfl
theorem dX11_reckons_61 : decode cX11_reckons 61 = .ok (.goto 68, 3) := wn_at gdX11_reckons_49 6 rfl
theorem dX11_reckons_64 : decode cX11_reckons 64 = .ok (.iload 5, 2) := wn_at gdX11_reckons_49 7 rfl
theorem dX11_reckons_66 : decode cX11_reckons 66 = .ok (.iconst 1, 1) := wn_at gdX11_reckons_49 8 rfl
theorem dX11_reckons_67 : decode cX11_reckons 67 = .ok (.if_icmp .ne 17, 3) := wn_at gdX11_reckons_49 9 rfl
theorem gdX11_reckons_70 : ∀ e ∈ ([(70, .aload_n 0, 1), (71, .aload_n 0, 1), (72, .getfield 42, 3), (75, .iload 6, 2), (77, .laload, 1), (78, .invokevirtual 269, 3), (81, .goto 48, 3), (84, .iload 5, 2), (86, .bipush 11, 2), (88, .if_icmp .ne 16, 3)] : List (Nat × Instr × Nat)), decode cX11_reckons e.1 = .ok e.2 := wn_all _ 70 (by decide +kernel)
theorem dX11_reckons_70 : decode cX11_reckons 70 = .ok (.aload_n 0, 1) := wn_at gdX11_reckons_70 0 rfl
theorem dX11_reckons_71 : decode cX11_reckons 71 = .ok (.aload_n 0, 1) := wn_at gdX11_reckons_70 1 rfl
theorem dX11_reckons_72 : decode cX11_reckons 72 = .ok (.getfield 42, 3) := wn_at gdX11_reckons_70 2 rfl
theorem dX11_reckons_75 : decode cX11_reckons 75 = .ok (.iload 6, 2) := wn_at gdX11_reckons_70 3 rfl
theorem dX11_reckons_77 : decode cX11_reckons 77 = .ok (.laload, 1) := wn_at gdX11_reckons_70 4 rfl
theorem dX11_reckons_78 : decode cX11_reckons 78 = .ok (.invokevirtual 269, 3) := wn_at gdX11_reckons_70 5 rfl
theorem dX11_reckons_81 : decode cX11_reckons 81 = .ok (.goto 48, 3) := wn_at gdX11_reckons_70 6 rfl
theorem dX11_reckons_84 : decode cX11_reckons 84 = .ok (.iload 5, 2) := wn_at gdX11_reckons_70 7 rfl
theorem dX11_reckons_86 : decode cX11_reckons 86 = .ok (.bipush 11, 2) := wn_at gdX11_reckons_70 8 rfl
theorem dX11_reckons_88 : decode cX11_reckons 88 = .ok (.if_icmp .ne 16, 3) := wn_at gdX11_reckons_70 9 rfl
theorem gdX11_reckons_91 : ∀ e ∈ ([(91, .aload_n 0, 1), (92, .lconst 1, 1), (93, .aload_n 0, 1), (94, .invokevirtual 273, 3), (97, .lsub, 1), (98, .invokevirtual 269, 3), (101, .goto 28, 3), (104, .aload_n 0, 1), (105, .invokevirtual 273, 3), (108, .lstore 7, 2)] : List (Nat × Instr × Nat)), decode cX11_reckons e.1 = .ok e.2 := wn_all _ 91 (by decide +kernel)
theorem dX11_reckons_91 : decode cX11_reckons 91 = .ok (.aload_n 0, 1) := wn_at gdX11_reckons_91 0 rfl
theorem dX11_reckons_92 : decode cX11_reckons 92 = .ok (.lconst 1, 1) := wn_at gdX11_reckons_91 1 rfl
theorem dX11_reckons_93 : decode cX11_reckons 93 = .ok (.aload_n 0, 1) := wn_at gdX11_reckons_91 2 rfl
theorem dX11_reckons_94 : decode cX11_reckons 94 = .ok (.invokevirtual 273, 3) := wn_at gdX11_reckons_91 3 rfl
theorem dX11_reckons_97 : decode cX11_reckons 97 = .ok (.lsub, 1) := wn_at gdX11_reckons_91 4 rfl
theorem dX11_reckons_98 : decode cX11_reckons 98 = .ok (.invokevirtual 269, 3) := wn_at gdX11_reckons_91 5 rfl
theorem dX11_reckons_101 : decode cX11_reckons 101 = .ok (.goto 28, 3) := wn_at gdX11_reckons_91 6 rfl
theorem dX11_reckons_104 : decode cX11_reckons 104 = .ok (.aload_n 0, 1) := wn_at gdX11_reckons_91 7 rfl
theorem dX11_reckons_105 : decode cX11_reckons 105 = .ok (.invokevirtual 273, 3) := wn_at gdX11_reckons_91 8 rfl
theorem dX11_reckons_108 : decode cX11_reckons 108 = .ok (.lstore 7, 2) := wn_at gdX11_reckons_91 9 rfl
theorem gdX11_reckons_110 : ∀ e ∈ ([(110, .aload_n 0, 1), (111, .invokevirtual 273, 3), (114, .lstore 9, 2), (116, .aload_n 0, 1), (117, .iload 5, 2), (119, .lload 9, 2), (121, .lload 7, 2), (123, .invokestatic 277, 3), (126, .invokevirtual 269, 3), (129, .iinc 4 1, 3)] : List (Nat × Instr × Nat)), decode cX11_reckons e.1 = .ok e.2 := wn_all _ 110 (by decide +kernel)
theorem dX11_reckons_110 : decode cX11_reckons 110 = .ok (.aload_n 0, 1) := wn_at gdX11_reckons_110 0 rfl
theorem dX11_reckons_111 : decode cX11_reckons 111 = .ok (.invokevirtual 273, 3) := wn_at gdX11_reckons_110 1 rfl
theorem dX11_reckons_114 : decode cX11_reckons 114 = .ok (.lstore 9, 2) := wn_at gdX11_reckons_110 2 rfl
theorem dX11_reckons_116 : decode cX11_reckons 116 = .ok (.aload_n 0, 1) := wn_at gdX11_reckons_110 3 rfl
theorem dX11_reckons_117 : decode cX11_reckons 117 = .ok (.iload 5, 2) := wn_at gdX11_reckons_110 4 rfl
theorem dX11_reckons_119 : decode cX11_reckons 119 = .ok (.lload 9, 2) := wn_at gdX11_reckons_110 5 rfl
theorem dX11_reckons_121 : decode cX11_reckons 121 = .ok (.lload 7, 2) := wn_at gdX11_reckons_110 6 rfl
theorem dX11_reckons_123 : decode cX11_reckons 123 = .ok (.invokestatic 277, 3) := wn_at gdX11_reckons_110 7 rfl
theorem dX11_reckons_126 : decode cX11_reckons 126 = .ok (.invokevirtual 269, 3) := wn_at gdX11_reckons_110 8 rfl
theorem dX11_reckons_129 : decode cX11_reckons 129 = .ok (.iinc 4 1, 3) := wn_at gdX11_reckons_110 9 rfl
theorem gdX11_reckons_132 : ∀ e ∈ ([(132, .goto (-124), 3), (135, .aload_n 0, 1), (136, .invokevirtual 273, 3), (139, .lreturn, 1)] : List (Nat × Instr × Nat)), decode cX11_reckons e.1 = .ok e.2 := wn_all _ 132 (by decide +kernel)
theorem dX11_reckons_132 : decode cX11_reckons 132 = .ok (.goto (-124), 3) := wn_at gdX11_reckons_132 0 rfl
theorem dX11_reckons_135 : decode cX11_reckons 135 = .ok (.aload_n 0, 1) := wn_at gdX11_reckons_132 1 rfl
theorem dX11_reckons_136 : decode cX11_reckons 136 = .ok (.invokevirtual 273, 3) := wn_at gdX11_reckons_132 2 rfl
theorem dX11_reckons_139 : decode cX11_reckons 139 = .ok (.lreturn, 1) := wn_at gdX11_reckons_132 3 rfl
theorem gdX11_isFloor_0 : ∀ e ∈ ([(0, .iload_n 1, 1), (1, .ifCond .lt 17, 3), (4, .iload_n 1, 1), (5, .aload_n 0, 1), (6, .getfield 45, 3), (9, .iconst 0, 1), (10, .iaload, 1), (11, .if_icmp .ge 7, 3), (14, .iconst 1, 1), (15, .goto 4, 3)] : List (Nat × Instr × Nat)), decode cX11_isFloor e.1 = .ok e.2 := wn_all _ 0 (by decide +kernel)
theorem dX11_isFloor_0 : decode cX11_isFloor 0 = .ok (.iload_n 1, 1) := wn_at gdX11_isFloor_0 0 rfl
theorem dX11_isFloor_1 : decode cX11_isFloor 1 = .ok (.ifCond .lt 17, 3) := wn_at gdX11_isFloor_0 1 rfl
theorem dX11_isFloor_4 : decode cX11_isFloor 4 = .ok (.iload_n 1, 1) := wn_at gdX11_isFloor_0 2 rfl
theorem dX11_isFloor_5 : decode cX11_isFloor 5 = .ok (.aload_n 0, 1) := wn_at gdX11_isFloor_0 3 rfl
theorem dX11_isFloor_6 : decode cX11_isFloor 6 = .ok (.getfield 45, 3) := wn_at gdX11_isFloor_0 4 rfl
theorem dX11_isFloor_9 : decode cX11_isFloor 9 = .ok (.iconst 0, 1) := wn_at gdX11_isFloor_0 5 rfl
theorem dX11_isFloor_10 : decode cX11_isFloor 10 = .ok (.iaload, 1) := wn_at gdX11_isFloor_0 6 rfl
theorem dX11_isFloor_11 : decode cX11_isFloor 11 = .ok (.if_icmp .ge 7, 3) := wn_at gdX11_isFloor_0 7 rfl
theorem dX11_isFloor_14 : decode cX11_isFloor 14 = .ok (.iconst 1, 1) := wn_at gdX11_isFloor_0 8 rfl
theorem dX11_isFloor_15 : decode cX11_isFloor 15 = .ok (.goto 4, 3) := wn_at gdX11_isFloor_0 9 rfl
theorem gdX11_isFloor_18 : ∀ e ∈ ([(18, .iconst 0, 1), (19, .ireturn, 1)] : List (Nat × Instr × Nat)), decode cX11_isFloor e.1 = .ok e.2 := wn_all _ 18 (by decide +kernel)
theorem dX11_isFloor_18 : decode cX11_isFloor 18 = .ok (.iconst 0, 1) := wn_at gdX11_isFloor_18 0 rfl
theorem dX11_isFloor_19 : decode cX11_isFloor 19 = .ok (.ireturn, 1) := wn_at gdX11_isFloor_18 1 rfl
theorem gdX11_isStair_0 : ∀ e ∈ ([(0, .iload_n 1, 1), (1, .ifCond .lt 17, 3), (4, .iload_n 1, 1), (5, .aload_n 0, 1), (6, .getfield 45, 3), (9, .iconst 1, 1), (10, .iaload, 1), (11, .if_icmp .ge 7, 3), (14, .iconst 1, 1), (15, .goto 4, 3)] : List (Nat × Instr × Nat)), decode cX11_isStair e.1 = .ok e.2 := wn_all _ 0 (by decide +kernel)
theorem dX11_isStair_0 : decode cX11_isStair 0 = .ok (.iload_n 1, 1) := wn_at gdX11_isStair_0 0 rfl
theorem dX11_isStair_1 : decode cX11_isStair 1 = .ok (.ifCond .lt 17, 3) := wn_at gdX11_isStair_0 1 rfl
theorem dX11_isStair_4 : decode cX11_isStair 4 = .ok (.iload_n 1, 1) := wn_at gdX11_isStair_0 2 rfl
theorem dX11_isStair_5 : decode cX11_isStair 5 = .ok (.aload_n 0, 1) := wn_at gdX11_isStair_0 3 rfl
theorem dX11_isStair_6 : decode cX11_isStair 6 = .ok (.getfield 45, 3) := wn_at gdX11_isStair_0 4 rfl
theorem dX11_isStair_9 : decode cX11_isStair 9 = .ok (.iconst 1, 1) := wn_at gdX11_isStair_0 5 rfl
theorem dX11_isStair_10 : decode cX11_isStair 10 = .ok (.iaload, 1) := wn_at gdX11_isStair_0 6 rfl
theorem dX11_isStair_11 : decode cX11_isStair 11 = .ok (.if_icmp .ge 7, 3) := wn_at gdX11_isStair_0 7 rfl
theorem dX11_isStair_14 : decode cX11_isStair 14 = .ok (.iconst 1, 1) := wn_at gdX11_isStair_0 8 rfl
theorem dX11_isStair_15 : decode cX11_isStair 15 = .ok (.goto 4, 3) := wn_at gdX11_isStair_0 9 rfl
theorem gdX11_isStair_18 : ∀ e ∈ ([(18, .iconst 0, 1), (19, .ireturn, 1)] : List (Nat × Instr × Nat)), decode cX11_isStair e.1 = .ok e.2 := wn_all _ 18 (by decide +kernel)
theorem dX11_isStair_18 : decode cX11_isStair 18 = .ok (.iconst 0, 1) := wn_at gdX11_isStair_18 0 rfl
theorem dX11_isStair_19 : decode cX11_isStair 19 = .ok (.ireturn, 1) := wn_at gdX11_isStair_18 1 rfl
theorem gdX11_isThing_0 : ∀ e ∈ ([(0, .iload_n 1, 1), (1, .ifCond .lt 17, 3), (4, .iload_n 1, 1), (5, .aload_n 0, 1), (6, .getfield 45, 3), (9, .iconst 2, 1), (10, .iaload, 1), (11, .if_icmp .ge 7, 3), (14, .iconst 1, 1), (15, .goto 4, 3)] : List (Nat × Instr × Nat)), decode cX11_isThing e.1 = .ok e.2 := wn_all _ 0 (by decide +kernel)
theorem dX11_isThing_0 : decode cX11_isThing 0 = .ok (.iload_n 1, 1) := wn_at gdX11_isThing_0 0 rfl
theorem dX11_isThing_1 : decode cX11_isThing 1 = .ok (.ifCond .lt 17, 3) := wn_at gdX11_isThing_0 1 rfl
theorem dX11_isThing_4 : decode cX11_isThing 4 = .ok (.iload_n 1, 1) := wn_at gdX11_isThing_0 2 rfl
theorem dX11_isThing_5 : decode cX11_isThing 5 = .ok (.aload_n 0, 1) := wn_at gdX11_isThing_0 3 rfl
theorem dX11_isThing_6 : decode cX11_isThing 6 = .ok (.getfield 45, 3) := wn_at gdX11_isThing_0 4 rfl
theorem dX11_isThing_9 : decode cX11_isThing 9 = .ok (.iconst 2, 1) := wn_at gdX11_isThing_0 5 rfl
theorem dX11_isThing_10 : decode cX11_isThing 10 = .ok (.iaload, 1) := wn_at gdX11_isThing_0 6 rfl
theorem dX11_isThing_11 : decode cX11_isThing 11 = .ok (.if_icmp .ge 7, 3) := wn_at gdX11_isThing_0 7 rfl
theorem dX11_isThing_14 : decode cX11_isThing 14 = .ok (.iconst 1, 1) := wn_at gdX11_isThing_0 8 rfl
theorem dX11_isThing_15 : decode cX11_isThing 15 = .ok (.goto 4, 3) := wn_at gdX11_isThing_0 9 rfl
theorem gdX11_isThing_18 : ∀ e ∈ ([(18, .iconst 0, 1), (19, .ireturn, 1)] : List (Nat × Instr × Nat)), decode cX11_isThing e.1 = .ok e.2 := wn_all _ 18 (by decide +kernel)
theorem dX11_isThing_18 : decode cX11_isThing 18 = .ok (.iconst 0, 1) := wn_at gdX11_isThing_18 0 rfl
theorem dX11_isThing_19 : decode cX11_isThing 19 = .ok (.ireturn, 1) := wn_at gdX11_isThing_18 1 rfl
theorem gdX11_stairOf_0 : ∀ e ∈ ([(0, .aload_n 0, 1), (1, .getfield 45, 3), (4, .bipush 30, 2), (6, .iconst 5, 1), (7, .iload_n 1, 1), (8, .imul, 1), (9, .iadd, 1), (10, .iload_n 2, 1), (11, .iadd, 1), (12, .iaload, 1)] : List (Nat × Instr × Nat)), decode cX11_stairOf e.1 = .ok e.2 := wn_all _ 0 (by decide +kernel)
theorem dX11_stairOf_0 : decode cX11_stairOf 0 = .ok (.aload_n 0, 1) := wn_at gdX11_stairOf_0 0 rfl
theorem dX11_stairOf_1 : decode cX11_stairOf 1 = .ok (.getfield 45, 3) := wn_at gdX11_stairOf_0 1 rfl
theorem dX11_stairOf_4 : decode cX11_stairOf 4 = .ok (.bipush 30, 2) := wn_at gdX11_stairOf_0 2 rfl
theorem dX11_stairOf_6 : decode cX11_stairOf 6 = .ok (.iconst 5, 1) := wn_at gdX11_stairOf_0 3 rfl
theorem dX11_stairOf_7 : decode cX11_stairOf 7 = .ok (.iload_n 1, 1) := wn_at gdX11_stairOf_0 4 rfl
theorem dX11_stairOf_8 : decode cX11_stairOf 8 = .ok (.imul, 1) := wn_at gdX11_stairOf_0 5 rfl
theorem dX11_stairOf_9 : decode cX11_stairOf 9 = .ok (.iadd, 1) := wn_at gdX11_stairOf_0 6 rfl
theorem dX11_stairOf_10 : decode cX11_stairOf 10 = .ok (.iload_n 2, 1) := wn_at gdX11_stairOf_0 7 rfl
theorem dX11_stairOf_11 : decode cX11_stairOf 11 = .ok (.iadd, 1) := wn_at gdX11_stairOf_0 8 rfl
theorem dX11_stairOf_12 : decode cX11_stairOf 12 = .ok (.iaload, 1) := wn_at gdX11_stairOf_0 9 rfl
theorem gdX11_stairOf_13 : ∀ e ∈ ([(13, .ireturn, 1)] : List (Nat × Instr × Nat)), decode cX11_stairOf e.1 = .ok e.2 := wn_all _ 13 (by decide +kernel)
theorem dX11_stairOf_13 : decode cX11_stairOf 13 = .ok (.ireturn, 1) := wn_at gdX11_stairOf_13 0 rfl
theorem gdX11_thingOf_0 : ∀ e ∈ ([(0, .aload_n 0, 1), (1, .getfield 45, 3), (4, .bipush 90, 2), (6, .iconst 4, 1), (7, .iload_n 1, 1), (8, .imul, 1), (9, .iadd, 1), (10, .iload_n 2, 1), (11, .iadd, 1), (12, .iaload, 1)] : List (Nat × Instr × Nat)), decode cX11_thingOf e.1 = .ok e.2 := wn_all _ 0 (by decide +kernel)
theorem dX11_thingOf_0 : decode cX11_thingOf 0 = .ok (.aload_n 0, 1) := wn_at gdX11_thingOf_0 0 rfl
theorem dX11_thingOf_1 : decode cX11_thingOf 1 = .ok (.getfield 45, 3) := wn_at gdX11_thingOf_0 1 rfl
theorem dX11_thingOf_4 : decode cX11_thingOf 4 = .ok (.bipush 90, 2) := wn_at gdX11_thingOf_0 2 rfl
theorem dX11_thingOf_6 : decode cX11_thingOf 6 = .ok (.iconst 4, 1) := wn_at gdX11_thingOf_0 3 rfl
theorem dX11_thingOf_7 : decode cX11_thingOf 7 = .ok (.iload_n 1, 1) := wn_at gdX11_thingOf_0 4 rfl
theorem dX11_thingOf_8 : decode cX11_thingOf 8 = .ok (.imul, 1) := wn_at gdX11_thingOf_0 5 rfl
theorem dX11_thingOf_9 : decode cX11_thingOf 9 = .ok (.iadd, 1) := wn_at gdX11_thingOf_0 6 rfl
theorem dX11_thingOf_10 : decode cX11_thingOf 10 = .ok (.iload_n 2, 1) := wn_at gdX11_thingOf_0 7 rfl
theorem dX11_thingOf_11 : decode cX11_thingOf 11 = .ok (.iadd, 1) := wn_at gdX11_thingOf_0 8 rfl
theorem dX11_thingOf_12 : decode cX11_thingOf 12 = .ok (.iaload, 1) := wn_at gdX11_thingOf_0 9 rfl
theorem gdX11_thingOf_13 : ∀ e ∈ ([(13, .ireturn, 1)] : List (Nat × Instr × Nat)), decode cX11_thingOf e.1 = .ok e.2 := wn_all _ 13 (by decide +kernel)
theorem dX11_thingOf_13 : decode cX11_thingOf 13 = .ok (.ireturn, 1) := wn_at gdX11_thingOf_13 0 rfl
theorem gdX11_stands_0 : ∀ e ∈ ([(0, .bipush 90, 2), (2, .iconst 4, 1), (3, .iload_n 1, 1), (4, .imul, 1), (5, .iadd, 1), (6, .istore_n 3, 1), (7, .aload_n 0, 1), (8, .getfield 45, 3), (11, .iload_n 3, 1), (12, .iload_n 2, 1)] : List (Nat × Instr × Nat)), decode cX11_stands e.1 = .ok e.2 := wn_all _ 0 (by decide +kernel)
theorem dX11_stands_0 : decode cX11_stands 0 = .ok (.bipush 90, 2) := wn_at gdX11_stands_0 0 rfl
theorem dX11_stands_2 : decode cX11_stands 2 = .ok (.iconst 4, 1) := wn_at gdX11_stands_0 1 rfl
theorem dX11_stands_3 : decode cX11_stands 3 = .ok (.iload_n 1, 1) := wn_at gdX11_stands_0 2 rfl
theorem dX11_stands_4 : decode cX11_stands 4 = .ok (.imul, 1) := wn_at gdX11_stands_0 3 rfl
theorem dX11_stands_5 : decode cX11_stands 5 = .ok (.iadd, 1) := wn_at gdX11_stands_0 4 rfl
theorem dX11_stands_6 : decode cX11_stands 6 = .ok (.istore_n 3, 1) := wn_at gdX11_stands_0 5 rfl
theorem dX11_stands_7 : decode cX11_stands 7 = .ok (.aload_n 0, 1) := wn_at gdX11_stands_0 6 rfl
theorem dX11_stands_8 : decode cX11_stands 8 = .ok (.getfield 45, 3) := wn_at gdX11_stands_0 7 rfl
theorem dX11_stands_11 : decode cX11_stands 11 = .ok (.iload_n 3, 1) := wn_at gdX11_stands_0 8 rfl
theorem dX11_stands_12 : decode cX11_stands 12 = .ok (.iload_n 2, 1) := wn_at gdX11_stands_0 9 rfl
theorem gdX11_stands_13 : ∀ e ∈ ([(13, .iastore, 1), (14, .aload_n 0, 1), (15, .getfield 45, 3), (18, .iload_n 3, 1), (19, .iconst 1, 1), (20, .iadd, 1), (21, .iconst (-1), 1), (22, .iastore, 1), (23, .aload_n 0, 1), (24, .getfield 45, 3)] : List (Nat × Instr × Nat)), decode cX11_stands e.1 = .ok e.2 := wn_all _ 13 (by decide +kernel)
theorem dX11_stands_13 : decode cX11_stands 13 = .ok (.iastore, 1) := wn_at gdX11_stands_13 0 rfl
theorem dX11_stands_14 : decode cX11_stands 14 = .ok (.aload_n 0, 1) := wn_at gdX11_stands_13 1 rfl
theorem dX11_stands_15 : decode cX11_stands 15 = .ok (.getfield 45, 3) := wn_at gdX11_stands_13 2 rfl
theorem dX11_stands_18 : decode cX11_stands 18 = .ok (.iload_n 3, 1) := wn_at gdX11_stands_13 3 rfl
theorem dX11_stands_19 : decode cX11_stands 19 = .ok (.iconst 1, 1) := wn_at gdX11_stands_13 4 rfl
theorem dX11_stands_20 : decode cX11_stands 20 = .ok (.iadd, 1) := wn_at gdX11_stands_13 5 rfl
theorem dX11_stands_21 : decode cX11_stands 21 = .ok (.iconst (-1), 1) := wn_at gdX11_stands_13 6 rfl
theorem dX11_stands_22 : decode cX11_stands 22 = .ok (.iastore, 1) := wn_at gdX11_stands_13 7 rfl
theorem dX11_stands_23 : decode cX11_stands 23 = .ok (.aload_n 0, 1) := wn_at gdX11_stands_13 8 rfl
theorem dX11_stands_24 : decode cX11_stands 24 = .ok (.getfield 45, 3) := wn_at gdX11_stands_13 9 rfl
theorem gdX11_stands_27 : ∀ e ∈ ([(27, .iload_n 3, 1), (28, .iconst 2, 1), (29, .iadd, 1), (30, .iconst 0, 1), (31, .iastore, 1), (32, .aload_n 0, 1), (33, .getfield 45, 3), (36, .iload_n 3, 1), (37, .iconst 3, 1), (38, .iadd, 1)] : List (Nat × Instr × Nat)), decode cX11_stands e.1 = .ok e.2 := wn_all _ 27 (by decide +kernel)
theorem dX11_stands_27 : decode cX11_stands 27 = .ok (.iload_n 3, 1) := wn_at gdX11_stands_27 0 rfl
theorem dX11_stands_28 : decode cX11_stands 28 = .ok (.iconst 2, 1) := wn_at gdX11_stands_27 1 rfl
theorem dX11_stands_29 : decode cX11_stands 29 = .ok (.iadd, 1) := wn_at gdX11_stands_27 2 rfl
theorem dX11_stands_30 : decode cX11_stands 30 = .ok (.iconst 0, 1) := wn_at gdX11_stands_27 3 rfl
theorem dX11_stands_31 : decode cX11_stands 31 = .ok (.iastore, 1) := wn_at gdX11_stands_27 4 rfl
theorem dX11_stands_32 : decode cX11_stands 32 = .ok (.aload_n 0, 1) := wn_at gdX11_stands_27 5 rfl
theorem dX11_stands_33 : decode cX11_stands 33 = .ok (.getfield 45, 3) := wn_at gdX11_stands_27 6 rfl
theorem dX11_stands_36 : decode cX11_stands 36 = .ok (.iload_n 3, 1) := wn_at gdX11_stands_27 7 rfl
theorem dX11_stands_37 : decode cX11_stands 37 = .ok (.iconst 3, 1) := wn_at gdX11_stands_27 8 rfl
theorem dX11_stands_38 : decode cX11_stands 38 = .ok (.iadd, 1) := wn_at gdX11_stands_27 9 rfl
theorem gdX11_stands_39 : ∀ e ∈ ([(39, .iconst (-1), 1), (40, .iastore, 1), (41, .return_, 1)] : List (Nat × Instr × Nat)), decode cX11_stands e.1 = .ok e.2 := wn_all _ 39 (by decide +kernel)
theorem dX11_stands_39 : decode cX11_stands 39 = .ok (.iconst (-1), 1) := wn_at gdX11_stands_39 0 rfl
theorem dX11_stands_40 : decode cX11_stands 40 = .ok (.iastore, 1) := wn_at gdX11_stands_39 1 rfl
theorem dX11_stands_41 : decode cX11_stands 41 = .ok (.return_, 1) := wn_at gdX11_stands_39 2 rfl
theorem gdX11_floorParts_0 : ∀ e ∈ ([(0, .aload_n 0, 1), (1, .getfield 45, 3), (4, .bipush 10, 2), (6, .iconst 2, 1), (7, .iload_n 1, 1), (8, .imul, 1), (9, .iadd, 1), (10, .iaload, 1), (11, .i2l, 1), (12, .ldc2_w 281, 3)] : List (Nat × Instr × Nat)), decode cX11_floorParts e.1 = .ok e.2 := wn_all _ 0 (by decide +kernel)
theorem dX11_floorParts_0 : decode cX11_floorParts 0 = .ok (.aload_n 0, 1) := wn_at gdX11_floorParts_0 0 rfl
theorem dX11_floorParts_1 : decode cX11_floorParts 1 = .ok (.getfield 45, 3) := wn_at gdX11_floorParts_0 1 rfl
theorem dX11_floorParts_4 : decode cX11_floorParts 4 = .ok (.bipush 10, 2) := wn_at gdX11_floorParts_0 2 rfl
theorem dX11_floorParts_6 : decode cX11_floorParts 6 = .ok (.iconst 2, 1) := wn_at gdX11_floorParts_0 3 rfl
theorem dX11_floorParts_7 : decode cX11_floorParts 7 = .ok (.iload_n 1, 1) := wn_at gdX11_floorParts_0 4 rfl
theorem dX11_floorParts_8 : decode cX11_floorParts 8 = .ok (.imul, 1) := wn_at gdX11_floorParts_0 5 rfl
theorem dX11_floorParts_9 : decode cX11_floorParts 9 = .ok (.iadd, 1) := wn_at gdX11_floorParts_0 6 rfl
theorem dX11_floorParts_10 : decode cX11_floorParts 10 = .ok (.iaload, 1) := wn_at gdX11_floorParts_0 7 rfl
theorem dX11_floorParts_11 : decode cX11_floorParts 11 = .ok (.i2l, 1) := wn_at gdX11_floorParts_0 8 rfl
theorem dX11_floorParts_12 : decode cX11_floorParts 12 = .ok (.ldc2_w 281, 3) := wn_at gdX11_floorParts_0 9 rfl
theorem gdX11_floorParts_15 : ∀ e ∈ ([(15, .aload_n 0, 1), (16, .getfield 45, 3), (19, .bipush 10, 2), (21, .iconst 2, 1), (22, .iload_n 1, 1), (23, .imul, 1), (24, .iadd, 1), (25, .iconst 1, 1), (26, .iadd, 1), (27, .iaload, 1)] : List (Nat × Instr × Nat)), decode cX11_floorParts e.1 = .ok e.2 := wn_all _ 15 (by decide +kernel)
theorem dX11_floorParts_15 : decode cX11_floorParts 15 = .ok (.aload_n 0, 1) := wn_at gdX11_floorParts_15 0 rfl
theorem dX11_floorParts_16 : decode cX11_floorParts 16 = .ok (.getfield 45, 3) := wn_at gdX11_floorParts_15 1 rfl
theorem dX11_floorParts_19 : decode cX11_floorParts 19 = .ok (.bipush 10, 2) := wn_at gdX11_floorParts_15 2 rfl
theorem dX11_floorParts_21 : decode cX11_floorParts 21 = .ok (.iconst 2, 1) := wn_at gdX11_floorParts_15 3 rfl
theorem dX11_floorParts_22 : decode cX11_floorParts 22 = .ok (.iload_n 1, 1) := wn_at gdX11_floorParts_15 4 rfl
theorem dX11_floorParts_23 : decode cX11_floorParts 23 = .ok (.imul, 1) := wn_at gdX11_floorParts_15 5 rfl
theorem dX11_floorParts_24 : decode cX11_floorParts 24 = .ok (.iadd, 1) := wn_at gdX11_floorParts_15 6 rfl
theorem dX11_floorParts_25 : decode cX11_floorParts 25 = .ok (.iconst 1, 1) := wn_at gdX11_floorParts_15 7 rfl
theorem dX11_floorParts_26 : decode cX11_floorParts 26 = .ok (.iadd, 1) := wn_at gdX11_floorParts_15 8 rfl
theorem dX11_floorParts_27 : decode cX11_floorParts 27 = .ok (.iaload, 1) := wn_at gdX11_floorParts_15 9 rfl
theorem gdX11_floorParts_28 : ∀ e ∈ ([(28, .i2l, 1), (29, .ldiv, 1), (30, .lmul, 1), (31, .lreturn, 1)] : List (Nat × Instr × Nat)), decode cX11_floorParts e.1 = .ok e.2 := wn_all _ 28 (by decide +kernel)
theorem dX11_floorParts_28 : decode cX11_floorParts 28 = .ok (.i2l, 1) := wn_at gdX11_floorParts_28 0 rfl
theorem dX11_floorParts_29 : decode cX11_floorParts 29 = .ok (.ldiv, 1) := wn_at gdX11_floorParts_28 1 rfl
theorem dX11_floorParts_30 : decode cX11_floorParts 30 = .ok (.lmul, 1) := wn_at gdX11_floorParts_28 2 rfl
theorem dX11_floorParts_31 : decode cX11_floorParts 31 = .ok (.lreturn, 1) := wn_at gdX11_floorParts_28 3 rfl
theorem gdX11_stairParts_0 : ∀ e ∈ ([(0, .aload_n 0, 1), (1, .iload_n 1, 1), (2, .iconst 3, 1), (3, .invokevirtual 283, 3), (6, .i2l, 1), (7, .ldc2_w 281, 3), (10, .aload_n 0, 1), (11, .iload_n 1, 1), (12, .iconst 4, 1), (13, .invokevirtual 283, 3)] : List (Nat × Instr × Nat)), decode cX11_stairParts e.1 = .ok e.2 := wn_all _ 0 (by decide +kernel)
theorem dX11_stairParts_0 : decode cX11_stairParts 0 = .ok (.aload_n 0, 1) := wn_at gdX11_stairParts_0 0 rfl
theorem dX11_stairParts_1 : decode cX11_stairParts 1 = .ok (.iload_n 1, 1) := wn_at gdX11_stairParts_0 1 rfl
theorem dX11_stairParts_2 : decode cX11_stairParts 2 = .ok (.iconst 3, 1) := wn_at gdX11_stairParts_0 2 rfl
theorem dX11_stairParts_3 : decode cX11_stairParts 3 = .ok (.invokevirtual 283, 3) := wn_at gdX11_stairParts_0 3 rfl
theorem dX11_stairParts_6 : decode cX11_stairParts 6 = .ok (.i2l, 1) := wn_at gdX11_stairParts_0 4 rfl
theorem dX11_stairParts_7 : decode cX11_stairParts 7 = .ok (.ldc2_w 281, 3) := wn_at gdX11_stairParts_0 5 rfl
theorem dX11_stairParts_10 : decode cX11_stairParts 10 = .ok (.aload_n 0, 1) := wn_at gdX11_stairParts_0 6 rfl
theorem dX11_stairParts_11 : decode cX11_stairParts 11 = .ok (.iload_n 1, 1) := wn_at gdX11_stairParts_0 7 rfl
theorem dX11_stairParts_12 : decode cX11_stairParts 12 = .ok (.iconst 4, 1) := wn_at gdX11_stairParts_0 8 rfl
theorem dX11_stairParts_13 : decode cX11_stairParts 13 = .ok (.invokevirtual 283, 3) := wn_at gdX11_stairParts_0 9 rfl
theorem gdX11_stairParts_16 : ∀ e ∈ ([(16, .i2l, 1), (17, .ldiv, 1), (18, .lmul, 1), (19, .lreturn, 1)] : List (Nat × Instr × Nat)), decode cX11_stairParts e.1 = .ok e.2 := wn_all _ 16 (by decide +kernel)
theorem dX11_stairParts_16 : decode cX11_stairParts 16 = .ok (.i2l, 1) := wn_at gdX11_stairParts_16 0 rfl
theorem dX11_stairParts_17 : decode cX11_stairParts 17 = .ok (.ldiv, 1) := wn_at gdX11_stairParts_16 1 rfl
theorem dX11_stairParts_18 : decode cX11_stairParts 18 = .ok (.lmul, 1) := wn_at gdX11_stairParts_16 2 rfl
theorem dX11_stairParts_19 : decode cX11_stairParts 19 = .ok (.lreturn, 1) := wn_at gdX11_stairParts_16 3 rfl
theorem gdX11_otherEnd_0 : ∀ e ∈ ([(0, .aload_n 0, 1), (1, .iload_n 1, 1), (2, .iconst 0, 1), (3, .invokevirtual 283, 3), (6, .iload_n 2, 1), (7, .if_icmp .ne 12, 3), (10, .aload_n 0, 1), (11, .iload_n 1, 1), (12, .iconst 1, 1), (13, .invokevirtual 283, 3)] : List (Nat × Instr × Nat)), decode cX11_otherEnd e.1 = .ok e.2 := wn_all _ 0 (by decide +kernel)
theorem dX11_otherEnd_0 : decode cX11_otherEnd 0 = .ok (.aload_n 0, 1) := wn_at gdX11_otherEnd_0 0 rfl
theorem dX11_otherEnd_1 : decode cX11_otherEnd 1 = .ok (.iload_n 1, 1) := wn_at gdX11_otherEnd_0 1 rfl
theorem dX11_otherEnd_2 : decode cX11_otherEnd 2 = .ok (.iconst 0, 1) := wn_at gdX11_otherEnd_0 2 rfl
theorem dX11_otherEnd_3 : decode cX11_otherEnd 3 = .ok (.invokevirtual 283, 3) := wn_at gdX11_otherEnd_0 3 rfl
theorem dX11_otherEnd_6 : decode cX11_otherEnd 6 = .ok (.iload_n 2, 1) := wn_at gdX11_otherEnd_0 4 rfl
theorem dX11_otherEnd_7 : decode cX11_otherEnd 7 = .ok (.if_icmp .ne 12, 3) := wn_at gdX11_otherEnd_0 5 rfl
theorem dX11_otherEnd_10 : decode cX11_otherEnd 10 = .ok (.aload_n 0, 1) := wn_at gdX11_otherEnd_0 6 rfl
theorem dX11_otherEnd_11 : decode cX11_otherEnd 11 = .ok (.iload_n 1, 1) := wn_at gdX11_otherEnd_0 7 rfl
theorem dX11_otherEnd_12 : decode cX11_otherEnd 12 = .ok (.iconst 1, 1) := wn_at gdX11_otherEnd_0 8 rfl
theorem dX11_otherEnd_13 : decode cX11_otherEnd 13 = .ok (.invokevirtual 283, 3) := wn_at gdX11_otherEnd_0 9 rfl
theorem gdX11_otherEnd_16 : ∀ e ∈ ([(16, .goto 23, 3), (19, .aload_n 0, 1), (20, .iload_n 1, 1), (21, .iconst 1, 1), (22, .invokevirtual 283, 3), (25, .iload_n 2, 1), (26, .if_icmp .ne 12, 3), (29, .aload_n 0, 1), (30, .iload_n 1, 1), (31, .iconst 0, 1)] : List (Nat × Instr × Nat)), decode cX11_otherEnd e.1 = .ok e.2 := wn_all _ 16 (by decide +kernel)
theorem dX11_otherEnd_16 : decode cX11_otherEnd 16 = .ok (.goto 23, 3) := wn_at gdX11_otherEnd_16 0 rfl
theorem dX11_otherEnd_19 : decode cX11_otherEnd 19 = .ok (.aload_n 0, 1) := wn_at gdX11_otherEnd_16 1 rfl
theorem dX11_otherEnd_20 : decode cX11_otherEnd 20 = .ok (.iload_n 1, 1) := wn_at gdX11_otherEnd_16 2 rfl
theorem dX11_otherEnd_21 : decode cX11_otherEnd 21 = .ok (.iconst 1, 1) := wn_at gdX11_otherEnd_16 3 rfl
theorem dX11_otherEnd_22 : decode cX11_otherEnd 22 = .ok (.invokevirtual 283, 3) := wn_at gdX11_otherEnd_16 4 rfl
theorem dX11_otherEnd_25 : decode cX11_otherEnd 25 = .ok (.iload_n 2, 1) := wn_at gdX11_otherEnd_16 5 rfl
theorem dX11_otherEnd_26 : decode cX11_otherEnd 26 = .ok (.if_icmp .ne 12, 3) := wn_at gdX11_otherEnd_16 6 rfl
theorem dX11_otherEnd_29 : decode cX11_otherEnd 29 = .ok (.aload_n 0, 1) := wn_at gdX11_otherEnd_16 7 rfl
theorem dX11_otherEnd_30 : decode cX11_otherEnd 30 = .ok (.iload_n 1, 1) := wn_at gdX11_otherEnd_16 8 rfl
theorem dX11_otherEnd_31 : decode cX11_otherEnd 31 = .ok (.iconst 0, 1) := wn_at gdX11_otherEnd_16 9 rfl
theorem gdX11_otherEnd_32 : ∀ e ∈ ([(32, .invokevirtual 283, 3), (35, .goto 4, 3), (38, .iconst (-1), 1), (39, .ireturn, 1)] : List (Nat × Instr × Nat)), decode cX11_otherEnd e.1 = .ok e.2 := wn_all _ 32 (by decide +kernel)
theorem dX11_otherEnd_32 : decode cX11_otherEnd 32 = .ok (.invokevirtual 283, 3) := wn_at gdX11_otherEnd_32 0 rfl
theorem dX11_otherEnd_35 : decode cX11_otherEnd 35 = .ok (.goto 4, 3) := wn_at gdX11_otherEnd_32 1 rfl
theorem dX11_otherEnd_38 : decode cX11_otherEnd 38 = .ok (.iconst (-1), 1) := wn_at gdX11_otherEnd_32 2 rfl
theorem dX11_otherEnd_39 : decode cX11_otherEnd 39 = .ok (.ireturn, 1) := wn_at gdX11_otherEnd_32 3 rfl
theorem gdX11_spreads_0 : ∀ e ∈ ([(0, .iconst 0, 1), (1, .istore_n 1, 1), (2, .iload_n 1, 1), (3, .bipush 10, 2), (5, .if_icmp .ge 46, 3), (8, .iconst 0, 1), (9, .istore_n 2, 1), (10, .iload_n 2, 1), (11, .bipush 10, 2), (13, .if_icmp .ge 32, 3)] : List (Nat × Instr × Nat)), decode cX11_spreads e.1 = .ok e.2 := wn_all _ 0 (by decide +kernel)
theorem dX11_spreads_0 : decode cX11_spreads 0 = .ok (.iconst 0, 1) := wn_at gdX11_spreads_0 0 rfl
theorem dX11_spreads_1 : decode cX11_spreads 1 = .ok (.istore_n 1, 1) := wn_at gdX11_spreads_0 1 rfl
theorem dX11_spreads_2 : decode cX11_spreads 2 = .ok (.iload_n 1, 1) := wn_at gdX11_spreads_0 2 rfl
theorem dX11_spreads_3 : decode cX11_spreads 3 = .ok (.bipush 10, 2) := wn_at gdX11_spreads_0 3 rfl
theorem dX11_spreads_5 : decode cX11_spreads 5 = .ok (.if_icmp .ge 46, 3) := wn_at gdX11_spreads_0 4 rfl
theorem dX11_spreads_8 : decode cX11_spreads 8 = .ok (.iconst 0, 1) := wn_at gdX11_spreads_0 5 rfl
theorem dX11_spreads_9 : decode cX11_spreads 9 = .ok (.istore_n 2, 1) := wn_at gdX11_spreads_0 6 rfl
theorem dX11_spreads_10 : decode cX11_spreads 10 = .ok (.iload_n 2, 1) := wn_at gdX11_spreads_0 7 rfl
theorem dX11_spreads_11 : decode cX11_spreads 11 = .ok (.bipush 10, 2) := wn_at gdX11_spreads_0 8 rfl
theorem dX11_spreads_13 : decode cX11_spreads 13 = .ok (.if_icmp .ge 32, 3) := wn_at gdX11_spreads_0 9 rfl
theorem gdX11_spreads_16 : ∀ e ∈ ([(16, .aload_n 0, 1), (17, .getfield 57, 3), (20, .bipush 10, 2), (22, .iload_n 1, 1), (23, .imul, 1), (24, .iload_n 2, 1), (25, .iadd, 1), (26, .iload_n 1, 1), (27, .iload_n 2, 1), (28, .if_icmp .ne 7, 3)] : List (Nat × Instr × Nat)), decode cX11_spreads e.1 = .ok e.2 := wn_all _ 16 (by decide +kernel)
theorem dX11_spreads_16 : decode cX11_spreads 16 = .ok (.aload_n 0, 1) := wn_at gdX11_spreads_16 0 rfl
theorem dX11_spreads_17 : decode cX11_spreads 17 = .ok (.getfield 57, 3) := wn_at gdX11_spreads_16 1 rfl
theorem dX11_spreads_20 : decode cX11_spreads 20 = .ok (.bipush 10, 2) := wn_at gdX11_spreads_16 2 rfl
theorem dX11_spreads_22 : decode cX11_spreads 22 = .ok (.iload_n 1, 1) := wn_at gdX11_spreads_16 3 rfl
theorem dX11_spreads_23 : decode cX11_spreads 23 = .ok (.imul, 1) := wn_at gdX11_spreads_16 4 rfl
theorem dX11_spreads_24 : decode cX11_spreads 24 = .ok (.iload_n 2, 1) := wn_at gdX11_spreads_16 5 rfl
theorem dX11_spreads_25 : decode cX11_spreads 25 = .ok (.iadd, 1) := wn_at gdX11_spreads_16 6 rfl
theorem dX11_spreads_26 : decode cX11_spreads 26 = .ok (.iload_n 1, 1) := wn_at gdX11_spreads_16 7 rfl
theorem dX11_spreads_27 : decode cX11_spreads 27 = .ok (.iload_n 2, 1) := wn_at gdX11_spreads_16 8 rfl
theorem dX11_spreads_28 : decode cX11_spreads 28 = .ok (.if_icmp .ne 7, 3) := wn_at gdX11_spreads_16 9 rfl
theorem gdX11_spreads_31 : ∀ e ∈ ([(31, .lconst 0, 1), (32, .goto 6, 3), (35, .ldc2_w 287, 3), (38, .lastore, 1), (39, .iinc 2 1, 3), (42, .goto (-32), 3), (45, .iinc 1 1, 3), (48, .goto (-46), 3), (51, .iconst 0, 1), (52, .istore_n 1, 1)] : List (Nat × Instr × Nat)), decode cX11_spreads e.1 = .ok e.2 := wn_all _ 31 (by decide +kernel)
theorem dX11_spreads_31 : decode cX11_spreads 31 = .ok (.lconst 0, 1) := wn_at gdX11_spreads_31 0 rfl
theorem dX11_spreads_32 : decode cX11_spreads 32 = .ok (.goto 6, 3) := wn_at gdX11_spreads_31 1 rfl
theorem dX11_spreads_35 : decode cX11_spreads 35 = .ok (.ldc2_w 287, 3) := wn_at gdX11_spreads_31 2 rfl
theorem dX11_spreads_38 : decode cX11_spreads 38 = .ok (.lastore, 1) := wn_at gdX11_spreads_31 3 rfl
theorem dX11_spreads_39 : decode cX11_spreads 39 = .ok (.iinc 2 1, 3) := wn_at gdX11_spreads_31 4 rfl
theorem dX11_spreads_42 : decode cX11_spreads 42 = .ok (.goto (-32), 3) := wn_at gdX11_spreads_31 5 rfl
theorem dX11_spreads_45 : decode cX11_spreads 45 = .ok (.iinc 1 1, 3) := wn_at gdX11_spreads_31 6 rfl
theorem dX11_spreads_48 : decode cX11_spreads 48 = .ok (.goto (-46), 3) := wn_at gdX11_spreads_31 7 rfl
theorem dX11_spreads_51 : decode cX11_spreads 51 = .ok (.iconst 0, 1) := wn_at gdX11_spreads_31 8 rfl
theorem dX11_spreads_52 : decode cX11_spreads 52 = .ok (.istore_n 1, 1) := wn_at gdX11_spreads_31 9 rfl
theorem gdX11_spreads_53 : ∀ e ∈ ([(53, .iload_n 1, 1), (54, .aload_n 0, 1), (55, .getfield 45, 3), (58, .iconst 1, 1), (59, .iaload, 1), (60, .if_icmp .ge 84, 3), (63, .aload_n 0, 1), (64, .iload_n 1, 1), (65, .iconst 0, 1), (66, .invokevirtual 283, 3)] : List (Nat × Instr × Nat)), decode cX11_spreads e.1 = .ok e.2 := wn_all _ 53 (by decide +kernel)
theorem dX11_spreads_53 : decode cX11_spreads 53 = .ok (.iload_n 1, 1) := wn_at gdX11_spreads_53 0 rfl
theorem dX11_spreads_54 : decode cX11_spreads 54 = .ok (.aload_n 0, 1) := wn_at gdX11_spreads_53 1 rfl
theorem dX11_spreads_55 : decode cX11_spreads 55 = .ok (.getfield 45, 3) := wn_at gdX11_spreads_53 2 rfl
theorem dX11_spreads_58 : decode cX11_spreads 58 = .ok (.iconst 1, 1) := wn_at gdX11_spreads_53 3 rfl
theorem dX11_spreads_59 : decode cX11_spreads 59 = .ok (.iaload, 1) := wn_at gdX11_spreads_53 4 rfl
theorem dX11_spreads_60 : decode cX11_spreads 60 = .ok (.if_icmp .ge 84, 3) := wn_at gdX11_spreads_53 5 rfl
theorem dX11_spreads_63 : decode cX11_spreads 63 = .ok (.aload_n 0, 1) := wn_at gdX11_spreads_53 6 rfl
theorem dX11_spreads_64 : decode cX11_spreads 64 = .ok (.iload_n 1, 1) := wn_at gdX11_spreads_53 7 rfl
theorem dX11_spreads_65 : decode cX11_spreads 65 = .ok (.iconst 0, 1) := wn_at gdX11_spreads_53 8 rfl
theorem dX11_spreads_66 : decode cX11_spreads 66 = .ok (.invokevirtual 283, 3) := wn_at gdX11_spreads_53 9 rfl
theorem gdX11_spreads_69 : ∀ e ∈ ([(69, .istore_n 2, 1), (70, .aload_n 0, 1), (71, .iload_n 1, 1), (72, .iconst 1, 1), (73, .invokevirtual 283, 3), (76, .istore_n 3, 1), (77, .aload_n 0, 1), (78, .iload_n 1, 1), (79, .iconst 2, 1), (80, .invokevirtual 283, 3)] : List (Nat × Instr × Nat)), decode cX11_spreads e.1 = .ok e.2 := wn_all _ 69 (by decide +kernel)
theorem dX11_spreads_69 : decode cX11_spreads 69 = .ok (.istore_n 2, 1) := wn_at gdX11_spreads_69 0 rfl
theorem dX11_spreads_70 : decode cX11_spreads 70 = .ok (.aload_n 0, 1) := wn_at gdX11_spreads_69 1 rfl
theorem dX11_spreads_71 : decode cX11_spreads 71 = .ok (.iload_n 1, 1) := wn_at gdX11_spreads_69 2 rfl
theorem dX11_spreads_72 : decode cX11_spreads 72 = .ok (.iconst 1, 1) := wn_at gdX11_spreads_69 3 rfl
theorem dX11_spreads_73 : decode cX11_spreads 73 = .ok (.invokevirtual 283, 3) := wn_at gdX11_spreads_69 4 rfl
theorem dX11_spreads_76 : decode cX11_spreads 76 = .ok (.istore_n 3, 1) := wn_at gdX11_spreads_69 5 rfl
theorem dX11_spreads_77 : decode cX11_spreads 77 = .ok (.aload_n 0, 1) := wn_at gdX11_spreads_69 6 rfl
theorem dX11_spreads_78 : decode cX11_spreads 78 = .ok (.iload_n 1, 1) := wn_at gdX11_spreads_69 7 rfl
theorem dX11_spreads_79 : decode cX11_spreads 79 = .ok (.iconst 2, 1) := wn_at gdX11_spreads_69 8 rfl
theorem dX11_spreads_80 : decode cX11_spreads 80 = .ok (.invokevirtual 283, 3) := wn_at gdX11_spreads_69 9 rfl
theorem gdX11_spreads_83 : ∀ e ∈ ([(83, .i2l, 1), (84, .aload_n 0, 1), (85, .getfield 57, 3), (88, .bipush 10, 2), (90, .iload_n 2, 1), (91, .imul, 1), (92, .iload_n 3, 1), (93, .iadd, 1), (94, .laload, 1), (95, .lcmp, 1)] : List (Nat × Instr × Nat)), decode cX11_spreads e.1 = .ok e.2 := wn_all _ 83 (by decide +kernel)
theorem dX11_spreads_83 : decode cX11_spreads 83 = .ok (.i2l, 1) := wn_at gdX11_spreads_83 0 rfl
theorem dX11_spreads_84 : decode cX11_spreads 84 = .ok (.aload_n 0, 1) := wn_at gdX11_spreads_83 1 rfl
theorem dX11_spreads_85 : decode cX11_spreads 85 = .ok (.getfield 57, 3) := wn_at gdX11_spreads_83 2 rfl
theorem dX11_spreads_88 : decode cX11_spreads 88 = .ok (.bipush 10, 2) := wn_at gdX11_spreads_83 3 rfl
theorem dX11_spreads_90 : decode cX11_spreads 90 = .ok (.iload_n 2, 1) := wn_at gdX11_spreads_83 4 rfl
theorem dX11_spreads_91 : decode cX11_spreads 91 = .ok (.imul, 1) := wn_at gdX11_spreads_83 5 rfl
theorem dX11_spreads_92 : decode cX11_spreads 92 = .ok (.iload_n 3, 1) := wn_at gdX11_spreads_83 6 rfl
theorem dX11_spreads_93 : decode cX11_spreads 93 = .ok (.iadd, 1) := wn_at gdX11_spreads_83 7 rfl
theorem dX11_spreads_94 : decode cX11_spreads 94 = .ok (.laload, 1) := wn_at gdX11_spreads_83 8 rfl
theorem dX11_spreads_95 : decode cX11_spreads 95 = .ok (.lcmp, 1) := wn_at gdX11_spreads_83 9 rfl
theorem gdX11_spreads_96 : ∀ e ∈ ([(96, .ifCond .lt 6, 3), (99, .goto 39, 3), (102, .aload_n 0, 1), (103, .getfield 57, 3), (106, .bipush 10, 2), (108, .iload_n 2, 1), (109, .imul, 1), (110, .iload_n 3, 1), (111, .iadd, 1), (112, .aload_n 0, 1)] : List (Nat × Instr × Nat)), decode cX11_spreads e.1 = .ok e.2 := wn_all _ 96 (by decide +kernel)
theorem dX11_spreads_96 : decode cX11_spreads 96 = .ok (.ifCond .lt 6, 3) := wn_at gdX11_spreads_96 0 rfl
theorem dX11_spreads_99 : decode cX11_spreads 99 = .ok (.goto 39, 3) := wn_at gdX11_spreads_96 1 rfl
theorem dX11_spreads_102 : decode cX11_spreads 102 = .ok (.aload_n 0, 1) := wn_at gdX11_spreads_96 2 rfl
theorem dX11_spreads_103 : decode cX11_spreads 103 = .ok (.getfield 57, 3) := wn_at gdX11_spreads_96 3 rfl
theorem dX11_spreads_106 : decode cX11_spreads 106 = .ok (.bipush 10, 2) := wn_at gdX11_spreads_96 4 rfl
theorem dX11_spreads_108 : decode cX11_spreads 108 = .ok (.iload_n 2, 1) := wn_at gdX11_spreads_96 5 rfl
theorem dX11_spreads_109 : decode cX11_spreads 109 = .ok (.imul, 1) := wn_at gdX11_spreads_96 6 rfl
theorem dX11_spreads_110 : decode cX11_spreads 110 = .ok (.iload_n 3, 1) := wn_at gdX11_spreads_96 7 rfl
theorem dX11_spreads_111 : decode cX11_spreads 111 = .ok (.iadd, 1) := wn_at gdX11_spreads_96 8 rfl
theorem dX11_spreads_112 : decode cX11_spreads 112 = .ok (.aload_n 0, 1) := wn_at gdX11_spreads_96 9 rfl
theorem gdX11_spreads_113 : ∀ e ∈ ([(113, .iload_n 1, 1), (114, .iconst 2, 1), (115, .invokevirtual 283, 3), (118, .i2l, 1), (119, .lastore, 1), (120, .aload_n 0, 1), (121, .getfield 57, 3), (124, .bipush 10, 2), (126, .iload_n 3, 1), (127, .imul, 1)] : List (Nat × Instr × Nat)), decode cX11_spreads e.1 = .ok e.2 := wn_all _ 113 (by decide +kernel)
theorem dX11_spreads_113 : decode cX11_spreads 113 = .ok (.iload_n 1, 1) := wn_at gdX11_spreads_113 0 rfl
theorem dX11_spreads_114 : decode cX11_spreads 114 = .ok (.iconst 2, 1) := wn_at gdX11_spreads_113 1 rfl
theorem dX11_spreads_115 : decode cX11_spreads 115 = .ok (.invokevirtual 283, 3) := wn_at gdX11_spreads_113 2 rfl
theorem dX11_spreads_118 : decode cX11_spreads 118 = .ok (.i2l, 1) := wn_at gdX11_spreads_113 3 rfl
theorem dX11_spreads_119 : decode cX11_spreads 119 = .ok (.lastore, 1) := wn_at gdX11_spreads_113 4 rfl
theorem dX11_spreads_120 : decode cX11_spreads 120 = .ok (.aload_n 0, 1) := wn_at gdX11_spreads_113 5 rfl
theorem dX11_spreads_121 : decode cX11_spreads 121 = .ok (.getfield 57, 3) := wn_at gdX11_spreads_113 6 rfl
theorem dX11_spreads_124 : decode cX11_spreads 124 = .ok (.bipush 10, 2) := wn_at gdX11_spreads_113 7 rfl
theorem dX11_spreads_126 : decode cX11_spreads 126 = .ok (.iload_n 3, 1) := wn_at gdX11_spreads_113 8 rfl
theorem dX11_spreads_127 : decode cX11_spreads 127 = .ok (.imul, 1) := wn_at gdX11_spreads_113 9 rfl
theorem gdX11_spreads_128 : ∀ e ∈ ([(128, .iload_n 2, 1), (129, .iadd, 1), (130, .aload_n 0, 1), (131, .iload_n 1, 1), (132, .iconst 2, 1), (133, .invokevirtual 283, 3), (136, .i2l, 1), (137, .lastore, 1), (138, .iinc 1 1, 3), (141, .goto (-88), 3)] : List (Nat × Instr × Nat)), decode cX11_spreads e.1 = .ok e.2 := wn_all _ 128 (by decide +kernel)
theorem dX11_spreads_128 : decode cX11_spreads 128 = .ok (.iload_n 2, 1) := wn_at gdX11_spreads_128 0 rfl
theorem dX11_spreads_129 : decode cX11_spreads 129 = .ok (.iadd, 1) := wn_at gdX11_spreads_128 1 rfl
theorem dX11_spreads_130 : decode cX11_spreads 130 = .ok (.aload_n 0, 1) := wn_at gdX11_spreads_128 2 rfl
theorem dX11_spreads_131 : decode cX11_spreads 131 = .ok (.iload_n 1, 1) := wn_at gdX11_spreads_128 3 rfl
theorem dX11_spreads_132 : decode cX11_spreads 132 = .ok (.iconst 2, 1) := wn_at gdX11_spreads_128 4 rfl
theorem dX11_spreads_133 : decode cX11_spreads 133 = .ok (.invokevirtual 283, 3) := wn_at gdX11_spreads_128 5 rfl
theorem dX11_spreads_136 : decode cX11_spreads 136 = .ok (.i2l, 1) := wn_at gdX11_spreads_128 6 rfl
theorem dX11_spreads_137 : decode cX11_spreads 137 = .ok (.lastore, 1) := wn_at gdX11_spreads_128 7 rfl
theorem dX11_spreads_138 : decode cX11_spreads 138 = .ok (.iinc 1 1, 3) := wn_at gdX11_spreads_128 8 rfl
theorem dX11_spreads_141 : decode cX11_spreads 141 = .ok (.goto (-88), 3) := wn_at gdX11_spreads_128 9 rfl
theorem gdX11_spreads_144 : ∀ e ∈ ([(144, .iconst 0, 1), (145, .istore_n 1, 1), (146, .iload_n 1, 1), (147, .bipush 10, 2), (149, .if_icmp .ge 109, 3), (152, .iconst 0, 1), (153, .istore_n 2, 1), (154, .iload_n 2, 1), (155, .bipush 10, 2), (157, .if_icmp .ge 95, 3)] : List (Nat × Instr × Nat)), decode cX11_spreads e.1 = .ok e.2 := wn_all _ 144 (by decide +kernel)
theorem dX11_spreads_144 : decode cX11_spreads 144 = .ok (.iconst 0, 1) := wn_at gdX11_spreads_144 0 rfl
theorem dX11_spreads_145 : decode cX11_spreads 145 = .ok (.istore_n 1, 1) := wn_at gdX11_spreads_144 1 rfl
theorem dX11_spreads_146 : decode cX11_spreads 146 = .ok (.iload_n 1, 1) := wn_at gdX11_spreads_144 2 rfl
theorem dX11_spreads_147 : decode cX11_spreads 147 = .ok (.bipush 10, 2) := wn_at gdX11_spreads_144 3 rfl
theorem dX11_spreads_149 : decode cX11_spreads 149 = .ok (.if_icmp .ge 109, 3) := wn_at gdX11_spreads_144 4 rfl
theorem dX11_spreads_152 : decode cX11_spreads 152 = .ok (.iconst 0, 1) := wn_at gdX11_spreads_144 5 rfl
theorem dX11_spreads_153 : decode cX11_spreads 153 = .ok (.istore_n 2, 1) := wn_at gdX11_spreads_144 6 rfl
theorem dX11_spreads_154 : decode cX11_spreads 154 = .ok (.iload_n 2, 1) := wn_at gdX11_spreads_144 7 rfl
theorem dX11_spreads_155 : decode cX11_spreads 155 = .ok (.bipush 10, 2) := wn_at gdX11_spreads_144 8 rfl
theorem dX11_spreads_157 : decode cX11_spreads 157 = .ok (.if_icmp .ge 95, 3) := wn_at gdX11_spreads_144 9 rfl
theorem gdX11_spreads_160 : ∀ e ∈ ([(160, .iconst 0, 1), (161, .istore_n 3, 1), (162, .iload_n 3, 1), (163, .bipush 10, 2), (165, .if_icmp .ge 81, 3), (168, .aload_n 0, 1), (169, .getfield 57, 3), (172, .bipush 10, 2), (174, .iload_n 2, 1), (175, .imul, 1)] : List (Nat × Instr × Nat)), decode cX11_spreads e.1 = .ok e.2 := wn_all _ 160 (by decide +kernel)
theorem dX11_spreads_160 : decode cX11_spreads 160 = .ok (.iconst 0, 1) := wn_at gdX11_spreads_160 0 rfl
theorem dX11_spreads_161 : decode cX11_spreads 161 = .ok (.istore_n 3, 1) := wn_at gdX11_spreads_160 1 rfl
theorem dX11_spreads_162 : decode cX11_spreads 162 = .ok (.iload_n 3, 1) := wn_at gdX11_spreads_160 2 rfl
theorem dX11_spreads_163 : decode cX11_spreads 163 = .ok (.bipush 10, 2) := wn_at gdX11_spreads_160 3 rfl
theorem dX11_spreads_165 : decode cX11_spreads 165 = .ok (.if_icmp .ge 81, 3) := wn_at gdX11_spreads_160 4 rfl
theorem dX11_spreads_168 : decode cX11_spreads 168 = .ok (.aload_n 0, 1) := wn_at gdX11_spreads_160 5 rfl
theorem dX11_spreads_169 : decode cX11_spreads 169 = .ok (.getfield 57, 3) := wn_at gdX11_spreads_160 6 rfl
theorem dX11_spreads_172 : decode cX11_spreads 172 = .ok (.bipush 10, 2) := wn_at gdX11_spreads_160 7 rfl
theorem dX11_spreads_174 : decode cX11_spreads 174 = .ok (.iload_n 2, 1) := wn_at gdX11_spreads_160 8 rfl
theorem dX11_spreads_175 : decode cX11_spreads 175 = .ok (.imul, 1) := wn_at gdX11_spreads_160 9 rfl
theorem gdX11_spreads_176 : ∀ e ∈ ([(176, .iload_n 1, 1), (177, .iadd, 1), (178, .laload, 1), (179, .aload_n 0, 1), (180, .getfield 57, 3), (183, .bipush 10, 2), (185, .iload_n 1, 1), (186, .imul, 1), (187, .iload_n 3, 1), (188, .iadd, 1)] : List (Nat × Instr × Nat)), decode cX11_spreads e.1 = .ok e.2 := wn_all _ 176 (by decide +kernel)
theorem dX11_spreads_176 : decode cX11_spreads 176 = .ok (.iload_n 1, 1) := wn_at gdX11_spreads_176 0 rfl
theorem dX11_spreads_177 : decode cX11_spreads 177 = .ok (.iadd, 1) := wn_at gdX11_spreads_176 1 rfl
theorem dX11_spreads_178 : decode cX11_spreads 178 = .ok (.laload, 1) := wn_at gdX11_spreads_176 2 rfl
theorem dX11_spreads_179 : decode cX11_spreads 179 = .ok (.aload_n 0, 1) := wn_at gdX11_spreads_176 3 rfl
theorem dX11_spreads_180 : decode cX11_spreads 180 = .ok (.getfield 57, 3) := wn_at gdX11_spreads_176 4 rfl
theorem dX11_spreads_183 : decode cX11_spreads 183 = .ok (.bipush 10, 2) := wn_at gdX11_spreads_176 5 rfl
theorem dX11_spreads_185 : decode cX11_spreads 185 = .ok (.iload_n 1, 1) := wn_at gdX11_spreads_176 6 rfl
theorem dX11_spreads_186 : decode cX11_spreads 186 = .ok (.imul, 1) := wn_at gdX11_spreads_176 7 rfl
theorem dX11_spreads_187 : decode cX11_spreads 187 = .ok (.iload_n 3, 1) := wn_at gdX11_spreads_176 8 rfl
theorem dX11_spreads_188 : decode cX11_spreads 188 = .ok (.iadd, 1) := wn_at gdX11_spreads_176 9 rfl
theorem gdX11_spreads_189 : ∀ e ∈ ([(189, .laload, 1), (190, .ladd, 1), (191, .aload_n 0, 1), (192, .getfield 57, 3), (195, .bipush 10, 2), (197, .iload_n 2, 1), (198, .imul, 1), (199, .iload_n 3, 1), (200, .iadd, 1), (201, .laload, 1)] : List (Nat × Instr × Nat)), decode cX11_spreads e.1 = .ok e.2 := wn_all _ 189 (by decide +kernel)
theorem dX11_spreads_189 : decode cX11_spreads 189 = .ok (.laload, 1) := wn_at gdX11_spreads_189 0 rfl
theorem dX11_spreads_190 : decode cX11_spreads 190 = .ok (.ladd, 1) := wn_at gdX11_spreads_189 1 rfl
theorem dX11_spreads_191 : decode cX11_spreads 191 = .ok (.aload_n 0, 1) := wn_at gdX11_spreads_189 2 rfl
theorem dX11_spreads_192 : decode cX11_spreads 192 = .ok (.getfield 57, 3) := wn_at gdX11_spreads_189 3 rfl
theorem dX11_spreads_195 : decode cX11_spreads 195 = .ok (.bipush 10, 2) := wn_at gdX11_spreads_189 4 rfl
theorem dX11_spreads_197 : decode cX11_spreads 197 = .ok (.iload_n 2, 1) := wn_at gdX11_spreads_189 5 rfl
theorem dX11_spreads_198 : decode cX11_spreads 198 = .ok (.imul, 1) := wn_at gdX11_spreads_189 6 rfl
theorem dX11_spreads_199 : decode cX11_spreads 199 = .ok (.iload_n 3, 1) := wn_at gdX11_spreads_189 7 rfl
theorem dX11_spreads_200 : decode cX11_spreads 200 = .ok (.iadd, 1) := wn_at gdX11_spreads_189 8 rfl
theorem dX11_spreads_201 : decode cX11_spreads 201 = .ok (.laload, 1) := wn_at gdX11_spreads_189 9 rfl
theorem gdX11_spreads_202 : ∀ e ∈ ([(202, .lcmp, 1), (203, .ifCond .ge 37, 3), (206, .aload_n 0, 1), (207, .getfield 57, 3), (210, .bipush 10, 2), (212, .iload_n 2, 1), (213, .imul, 1), (214, .iload_n 3, 1), (215, .iadd, 1), (216, .aload_n 0, 1)] : List (Nat × Instr × Nat)), decode cX11_spreads e.1 = .ok e.2 := wn_all _ 202 (by decide +kernel)
theorem dX11_spreads_202 : decode cX11_spreads 202 = .ok (.lcmp, 1) := wn_at gdX11_spreads_202 0 rfl
theorem dX11_spreads_203 : decode cX11_spreads 203 = .ok (.ifCond .ge 37, 3) := wn_at gdX11_spreads_202 1 rfl
theorem dX11_spreads_206 : decode cX11_spreads 206 = .ok (.aload_n 0, 1) := wn_at gdX11_spreads_202 2 rfl
theorem dX11_spreads_207 : decode cX11_spreads 207 = .ok (.getfield 57, 3) := wn_at gdX11_spreads_202 3 rfl
theorem dX11_spreads_210 : decode cX11_spreads 210 = .ok (.bipush 10, 2) := wn_at gdX11_spreads_202 4 rfl
theorem dX11_spreads_212 : decode cX11_spreads 212 = .ok (.iload_n 2, 1) := wn_at gdX11_spreads_202 5 rfl
theorem dX11_spreads_213 : decode cX11_spreads 213 = .ok (.imul, 1) := wn_at gdX11_spreads_202 6 rfl
theorem dX11_spreads_214 : decode cX11_spreads 214 = .ok (.iload_n 3, 1) := wn_at gdX11_spreads_202 7 rfl
theorem dX11_spreads_215 : decode cX11_spreads 215 = .ok (.iadd, 1) := wn_at gdX11_spreads_202 8 rfl
theorem dX11_spreads_216 : decode cX11_spreads 216 = .ok (.aload_n 0, 1) := wn_at gdX11_spreads_202 9 rfl
theorem gdX11_spreads_217 : ∀ e ∈ ([(217, .getfield 57, 3), (220, .bipush 10, 2), (222, .iload_n 2, 1), (223, .imul, 1), (224, .iload_n 1, 1), (225, .iadd, 1), (226, .laload, 1), (227, .aload_n 0, 1), (228, .getfield 57, 3), (231, .bipush 10, 2)] : List (Nat × Instr × Nat)), decode cX11_spreads e.1 = .ok e.2 := wn_all _ 217 (by decide +kernel)
theorem dX11_spreads_217 : decode cX11_spreads 217 = .ok (.getfield 57, 3) := wn_at gdX11_spreads_217 0 rfl
theorem dX11_spreads_220 : decode cX11_spreads 220 = .ok (.bipush 10, 2) := wn_at gdX11_spreads_217 1 rfl
theorem dX11_spreads_222 : decode cX11_spreads 222 = .ok (.iload_n 2, 1) := wn_at gdX11_spreads_217 2 rfl
theorem dX11_spreads_223 : decode cX11_spreads 223 = .ok (.imul, 1) := wn_at gdX11_spreads_217 3 rfl
theorem dX11_spreads_224 : decode cX11_spreads 224 = .ok (.iload_n 1, 1) := wn_at gdX11_spreads_217 4 rfl
theorem dX11_spreads_225 : decode cX11_spreads 225 = .ok (.iadd, 1) := wn_at gdX11_spreads_217 5 rfl
theorem dX11_spreads_226 : decode cX11_spreads 226 = .ok (.laload, 1) := wn_at gdX11_spreads_217 6 rfl
theorem dX11_spreads_227 : decode cX11_spreads 227 = .ok (.aload_n 0, 1) := wn_at gdX11_spreads_217 7 rfl
theorem dX11_spreads_228 : decode cX11_spreads 228 = .ok (.getfield 57, 3) := wn_at gdX11_spreads_217 8 rfl
theorem dX11_spreads_231 : decode cX11_spreads 231 = .ok (.bipush 10, 2) := wn_at gdX11_spreads_217 9 rfl
theorem gdX11_spreads_233 : ∀ e ∈ ([(233, .iload_n 1, 1), (234, .imul, 1), (235, .iload_n 3, 1), (236, .iadd, 1), (237, .laload, 1), (238, .ladd, 1), (239, .lastore, 1), (240, .iinc 3 1, 3), (243, .goto (-81), 3), (246, .iinc 2 1, 3)] : List (Nat × Instr × Nat)), decode cX11_spreads e.1 = .ok e.2 := wn_all _ 233 (by decide +kernel)
theorem dX11_spreads_233 : decode cX11_spreads 233 = .ok (.iload_n 1, 1) := wn_at gdX11_spreads_233 0 rfl
theorem dX11_spreads_234 : decode cX11_spreads 234 = .ok (.imul, 1) := wn_at gdX11_spreads_233 1 rfl
theorem dX11_spreads_235 : decode cX11_spreads 235 = .ok (.iload_n 3, 1) := wn_at gdX11_spreads_233 2 rfl
theorem dX11_spreads_236 : decode cX11_spreads 236 = .ok (.iadd, 1) := wn_at gdX11_spreads_233 3 rfl
theorem dX11_spreads_237 : decode cX11_spreads 237 = .ok (.laload, 1) := wn_at gdX11_spreads_233 4 rfl
theorem dX11_spreads_238 : decode cX11_spreads 238 = .ok (.ladd, 1) := wn_at gdX11_spreads_233 5 rfl
theorem dX11_spreads_239 : decode cX11_spreads 239 = .ok (.lastore, 1) := wn_at gdX11_spreads_233 6 rfl
theorem dX11_spreads_240 : decode cX11_spreads 240 = .ok (.iinc 3 1, 3) := wn_at gdX11_spreads_233 7 rfl
theorem dX11_spreads_243 : decode cX11_spreads 243 = .ok (.goto (-81), 3) := wn_at gdX11_spreads_233 8 rfl
theorem dX11_spreads_246 : decode cX11_spreads 246 = .ok (.iinc 2 1, 3) := wn_at gdX11_spreads_233 9 rfl
theorem gdX11_spreads_249 : ∀ e ∈ ([(249, .goto (-95), 3), (252, .iinc 1 1, 3), (255, .goto (-109), 3), (258, .return_, 1)] : List (Nat × Instr × Nat)), decode cX11_spreads e.1 = .ok e.2 := wn_all _ 249 (by decide +kernel)
theorem dX11_spreads_249 : decode cX11_spreads 249 = .ok (.goto (-95), 3) := wn_at gdX11_spreads_249 0 rfl
theorem dX11_spreads_252 : decode cX11_spreads 252 = .ok (.iinc 1 1, 3) := wn_at gdX11_spreads_249 1 rfl
theorem dX11_spreads_255 : decode cX11_spreads 255 = .ok (.goto (-109), 3) := wn_at gdX11_spreads_249 2 rfl
theorem dX11_spreads_258 : decode cX11_spreads 258 = .ok (.return_, 1) := wn_at gdX11_spreads_249 3 rfl
theorem gdX11_between_0 : ∀ e ∈ ([(0, .aload_n 0, 1), (1, .getfield 57, 3), (4, .bipush 10, 2), (6, .iload_n 1, 1), (7, .imul, 1), (8, .iload_n 2, 1), (9, .iadd, 1), (10, .laload, 1), (11, .lreturn, 1)] : List (Nat × Instr × Nat)), decode cX11_between e.1 = .ok e.2 := wn_all _ 0 (by decide +kernel)
theorem dX11_between_0 : decode cX11_between 0 = .ok (.aload_n 0, 1) := wn_at gdX11_between_0 0 rfl
theorem dX11_between_1 : decode cX11_between 1 = .ok (.getfield 57, 3) := wn_at gdX11_between_0 1 rfl
theorem dX11_between_4 : decode cX11_between 4 = .ok (.bipush 10, 2) := wn_at gdX11_between_0 2 rfl
theorem dX11_between_6 : decode cX11_between 6 = .ok (.iload_n 1, 1) := wn_at gdX11_between_0 3 rfl
theorem dX11_between_7 : decode cX11_between 7 = .ok (.imul, 1) := wn_at gdX11_between_0 4 rfl
theorem dX11_between_8 : decode cX11_between 8 = .ok (.iload_n 2, 1) := wn_at gdX11_between_0 5 rfl
theorem dX11_between_9 : decode cX11_between 9 = .ok (.iadd, 1) := wn_at gdX11_between_0 6 rfl
theorem dX11_between_10 : decode cX11_between 10 = .ok (.laload, 1) := wn_at gdX11_between_0 7 rfl
theorem dX11_between_11 : decode cX11_between 11 = .ok (.lreturn, 1) := wn_at gdX11_between_0 8 rfl
theorem gdX11_nextStair_0 : ∀ e ∈ ([(0, .iload_n 1, 1), (1, .iload_n 2, 1), (2, .if_icmp .eq 16, 3), (5, .aload_n 0, 1), (6, .iload_n 1, 1), (7, .iload_n 2, 1), (8, .invokevirtual 289, 3), (11, .ldc2_w 287, 3), (14, .lcmp, 1), (15, .ifCond .lt 6, 3)] : List (Nat × Instr × Nat)), decode cX11_nextStair e.1 = .ok e.2 := wn_all _ 0 (by decide +kernel)
theorem dX11_nextStair_0 : decode cX11_nextStair 0 = .ok (.iload_n 1, 1) := wn_at gdX11_nextStair_0 0 rfl
theorem dX11_nextStair_1 : decode cX11_nextStair 1 = .ok (.iload_n 2, 1) := wn_at gdX11_nextStair_0 1 rfl
theorem dX11_nextStair_2 : decode cX11_nextStair 2 = .ok (.if_icmp .eq 16, 3) := wn_at gdX11_nextStair_0 2 rfl
theorem dX11_nextStair_5 : decode cX11_nextStair 5 = .ok (.aload_n 0, 1) := wn_at gdX11_nextStair_0 3 rfl
theorem dX11_nextStair_6 : decode cX11_nextStair 6 = .ok (.iload_n 1, 1) := wn_at gdX11_nextStair_0 4 rfl
theorem dX11_nextStair_7 : decode cX11_nextStair 7 = .ok (.iload_n 2, 1) := wn_at gdX11_nextStair_0 5 rfl
theorem dX11_nextStair_8 : decode cX11_nextStair 8 = .ok (.invokevirtual 289, 3) := wn_at gdX11_nextStair_0 6 rfl
theorem dX11_nextStair_11 : decode cX11_nextStair 11 = .ok (.ldc2_w 287, 3) := wn_at gdX11_nextStair_0 7 rfl
theorem dX11_nextStair_14 : decode cX11_nextStair 14 = .ok (.lcmp, 1) := wn_at gdX11_nextStair_0 8 rfl
theorem dX11_nextStair_15 : decode cX11_nextStair 15 = .ok (.ifCond .lt 6, 3) := wn_at gdX11_nextStair_0 9 rfl
theorem gdX11_nextStair_18 : ∀ e ∈ ([(18, .bipush (-2), 2), (20, .ireturn, 1), (21, .iconst 0, 1), (22, .istore_n 3, 1), (23, .aload_n 0, 1), (24, .iload_n 3, 1), (25, .iload_n 1, 1), (26, .invokevirtual 293, 3), (29, .ifCond .lt 32, 3), (32, .aload_n 0, 1)] : List (Nat × Instr × Nat)), decode cX11_nextStair e.1 = .ok e.2 := wn_all _ 18 (by decide +kernel)
theorem dX11_nextStair_18 : decode cX11_nextStair 18 = .ok (.bipush (-2), 2) := wn_at gdX11_nextStair_18 0 rfl
theorem dX11_nextStair_20 : decode cX11_nextStair 20 = .ok (.ireturn, 1) := wn_at gdX11_nextStair_18 1 rfl
theorem dX11_nextStair_21 : decode cX11_nextStair 21 = .ok (.iconst 0, 1) := wn_at gdX11_nextStair_18 2 rfl
theorem dX11_nextStair_22 : decode cX11_nextStair 22 = .ok (.istore_n 3, 1) := wn_at gdX11_nextStair_18 3 rfl
theorem dX11_nextStair_23 : decode cX11_nextStair 23 = .ok (.aload_n 0, 1) := wn_at gdX11_nextStair_18 4 rfl
theorem dX11_nextStair_24 : decode cX11_nextStair 24 = .ok (.iload_n 3, 1) := wn_at gdX11_nextStair_18 5 rfl
theorem dX11_nextStair_25 : decode cX11_nextStair 25 = .ok (.iload_n 1, 1) := wn_at gdX11_nextStair_18 6 rfl
theorem dX11_nextStair_26 : decode cX11_nextStair 26 = .ok (.invokevirtual 293, 3) := wn_at gdX11_nextStair_18 7 rfl
theorem dX11_nextStair_29 : decode cX11_nextStair 29 = .ok (.ifCond .lt 32, 3) := wn_at gdX11_nextStair_18 8 rfl
theorem dX11_nextStair_32 : decode cX11_nextStair 32 = .ok (.aload_n 0, 1) := wn_at gdX11_nextStair_18 9 rfl
theorem gdX11_nextStair_33 : ∀ e ∈ ([(33, .iload_n 3, 1), (34, .iconst 2, 1), (35, .invokevirtual 283, 3), (38, .i2l, 1), (39, .aload_n 0, 1), (40, .aload_n 0, 1), (41, .iload_n 3, 1), (42, .iload_n 1, 1), (43, .invokevirtual 293, 3), (46, .iload_n 2, 1)] : List (Nat × Instr × Nat)), decode cX11_nextStair e.1 = .ok e.2 := wn_all _ 33 (by decide +kernel)
theorem dX11_nextStair_33 : decode cX11_nextStair 33 = .ok (.iload_n 3, 1) := wn_at gdX11_nextStair_33 0 rfl
theorem dX11_nextStair_34 : decode cX11_nextStair 34 = .ok (.iconst 2, 1) := wn_at gdX11_nextStair_33 1 rfl
theorem dX11_nextStair_35 : decode cX11_nextStair 35 = .ok (.invokevirtual 283, 3) := wn_at gdX11_nextStair_33 2 rfl
theorem dX11_nextStair_38 : decode cX11_nextStair 38 = .ok (.i2l, 1) := wn_at gdX11_nextStair_33 3 rfl
theorem dX11_nextStair_39 : decode cX11_nextStair 39 = .ok (.aload_n 0, 1) := wn_at gdX11_nextStair_33 4 rfl
theorem dX11_nextStair_40 : decode cX11_nextStair 40 = .ok (.aload_n 0, 1) := wn_at gdX11_nextStair_33 5 rfl
theorem dX11_nextStair_41 : decode cX11_nextStair 41 = .ok (.iload_n 3, 1) := wn_at gdX11_nextStair_33 6 rfl
theorem dX11_nextStair_42 : decode cX11_nextStair 42 = .ok (.iload_n 1, 1) := wn_at gdX11_nextStair_33 7 rfl
theorem dX11_nextStair_43 : decode cX11_nextStair 43 = .ok (.invokevirtual 293, 3) := wn_at gdX11_nextStair_33 8 rfl
theorem dX11_nextStair_46 : decode cX11_nextStair 46 = .ok (.iload_n 2, 1) := wn_at gdX11_nextStair_33 9 rfl
theorem gdX11_nextStair_47 : ∀ e ∈ ([(47, .invokevirtual 289, 3), (50, .ladd, 1), (51, .aload_n 0, 1), (52, .iload_n 1, 1), (53, .iload_n 2, 1), (54, .invokevirtual 289, 3), (57, .lcmp, 1), (58, .ifCond .eq 9, 3), (61, .iinc 3 1, 3), (64, .goto (-41), 3)] : List (Nat × Instr × Nat)), decode cX11_nextStair e.1 = .ok e.2 := wn_all _ 47 (by decide +kernel)
theorem dX11_nextStair_47 : decode cX11_nextStair 47 = .ok (.invokevirtual 289, 3) := wn_at gdX11_nextStair_47 0 rfl
theorem dX11_nextStair_50 : decode cX11_nextStair 50 = .ok (.ladd, 1) := wn_at gdX11_nextStair_47 1 rfl
theorem dX11_nextStair_51 : decode cX11_nextStair 51 = .ok (.aload_n 0, 1) := wn_at gdX11_nextStair_47 2 rfl
theorem dX11_nextStair_52 : decode cX11_nextStair 52 = .ok (.iload_n 1, 1) := wn_at gdX11_nextStair_47 3 rfl
theorem dX11_nextStair_53 : decode cX11_nextStair 53 = .ok (.iload_n 2, 1) := wn_at gdX11_nextStair_47 4 rfl
theorem dX11_nextStair_54 : decode cX11_nextStair 54 = .ok (.invokevirtual 289, 3) := wn_at gdX11_nextStair_47 5 rfl
theorem dX11_nextStair_57 : decode cX11_nextStair 57 = .ok (.lcmp, 1) := wn_at gdX11_nextStair_47 6 rfl
theorem dX11_nextStair_58 : decode cX11_nextStair 58 = .ok (.ifCond .eq 9, 3) := wn_at gdX11_nextStair_47 7 rfl
theorem dX11_nextStair_61 : decode cX11_nextStair 61 = .ok (.iinc 3 1, 3) := wn_at gdX11_nextStair_47 8 rfl
theorem dX11_nextStair_64 : decode cX11_nextStair 64 = .ok (.goto (-41), 3) := wn_at gdX11_nextStair_47 9 rfl
theorem gdX11_nextStair_67 : ∀ e ∈ ([(67, .iload_n 3, 1), (68, .ireturn, 1)] : List (Nat × Instr × Nat)), decode cX11_nextStair e.1 = .ok e.2 := wn_all _ 67 (by decide +kernel)
theorem dX11_nextStair_67 : decode cX11_nextStair 67 = .ok (.iload_n 3, 1) := wn_at gdX11_nextStair_67 0 rfl
theorem dX11_nextStair_68 : decode cX11_nextStair 68 = .ok (.ireturn, 1) := wn_at gdX11_nextStair_67 1 rfl
theorem gdX11_standing_0 : ∀ e ∈ ([(0, .iconst 0, 1), (1, .istore_n 2, 1), (2, .iconst 0, 1), (3, .istore_n 3, 1), (4, .iload_n 3, 1), (5, .aload_n 0, 1), (6, .getfield 45, 3), (9, .iconst 2, 1), (10, .iaload, 1), (11, .if_icmp .ge 27, 3)] : List (Nat × Instr × Nat)), decode cX11_standing e.1 = .ok e.2 := wn_all _ 0 (by decide +kernel)
theorem dX11_standing_0 : decode cX11_standing 0 = .ok (.iconst 0, 1) := wn_at gdX11_standing_0 0 rfl
theorem dX11_standing_1 : decode cX11_standing 1 = .ok (.istore_n 2, 1) := wn_at gdX11_standing_0 1 rfl
theorem dX11_standing_2 : decode cX11_standing 2 = .ok (.iconst 0, 1) := wn_at gdX11_standing_0 2 rfl
theorem dX11_standing_3 : decode cX11_standing 3 = .ok (.istore_n 3, 1) := wn_at gdX11_standing_0 3 rfl
theorem dX11_standing_4 : decode cX11_standing 4 = .ok (.iload_n 3, 1) := wn_at gdX11_standing_0 4 rfl
theorem dX11_standing_5 : decode cX11_standing 5 = .ok (.aload_n 0, 1) := wn_at gdX11_standing_0 5 rfl
theorem dX11_standing_6 : decode cX11_standing 6 = .ok (.getfield 45, 3) := wn_at gdX11_standing_0 6 rfl
theorem dX11_standing_9 : decode cX11_standing 9 = .ok (.iconst 2, 1) := wn_at gdX11_standing_0 7 rfl
theorem dX11_standing_10 : decode cX11_standing 10 = .ok (.iaload, 1) := wn_at gdX11_standing_0 8 rfl
theorem dX11_standing_11 : decode cX11_standing 11 = .ok (.if_icmp .ge 27, 3) := wn_at gdX11_standing_0 9 rfl
theorem gdX11_standing_14 : ∀ e ∈ ([(14, .iload_n 2, 1), (15, .aload_n 0, 1), (16, .iload_n 3, 1), (17, .iconst 0, 1), (18, .invokevirtual 296, 3), (21, .iload_n 1, 1), (22, .if_icmp .ne 7, 3), (25, .iconst 1, 1), (26, .goto 4, 3), (29, .iconst 0, 1)] : List (Nat × Instr × Nat)), decode cX11_standing e.1 = .ok e.2 := wn_all _ 14 (by decide +kernel)
theorem dX11_standing_14 : decode cX11_standing 14 = .ok (.iload_n 2, 1) := wn_at gdX11_standing_14 0 rfl
theorem dX11_standing_15 : decode cX11_standing 15 = .ok (.aload_n 0, 1) := wn_at gdX11_standing_14 1 rfl
theorem dX11_standing_16 : decode cX11_standing 16 = .ok (.iload_n 3, 1) := wn_at gdX11_standing_14 2 rfl
theorem dX11_standing_17 : decode cX11_standing 17 = .ok (.iconst 0, 1) := wn_at gdX11_standing_14 3 rfl
theorem dX11_standing_18 : decode cX11_standing 18 = .ok (.invokevirtual 296, 3) := wn_at gdX11_standing_14 4 rfl
theorem dX11_standing_21 : decode cX11_standing 21 = .ok (.iload_n 1, 1) := wn_at gdX11_standing_14 5 rfl
theorem dX11_standing_22 : decode cX11_standing 22 = .ok (.if_icmp .ne 7, 3) := wn_at gdX11_standing_14 6 rfl
theorem dX11_standing_25 : decode cX11_standing 25 = .ok (.iconst 1, 1) := wn_at gdX11_standing_14 7 rfl
theorem dX11_standing_26 : decode cX11_standing 26 = .ok (.goto 4, 3) := wn_at gdX11_standing_14 8 rfl
theorem dX11_standing_29 : decode cX11_standing 29 = .ok (.iconst 0, 1) := wn_at gdX11_standing_14 9 rfl
theorem gdX11_standing_30 : ∀ e ∈ ([(30, .iadd, 1), (31, .istore_n 2, 1), (32, .iinc 3 1, 3), (35, .goto (-31), 3), (38, .iload_n 2, 1), (39, .ireturn, 1)] : List (Nat × Instr × Nat)), decode cX11_standing e.1 = .ok e.2 := wn_all _ 30 (by decide +kernel)
theorem dX11_standing_30 : decode cX11_standing 30 = .ok (.iadd, 1) := wn_at gdX11_standing_30 0 rfl
theorem dX11_standing_31 : decode cX11_standing 31 = .ok (.istore_n 2, 1) := wn_at gdX11_standing_30 1 rfl
theorem dX11_standing_32 : decode cX11_standing 32 = .ok (.iinc 3 1, 3) := wn_at gdX11_standing_30 2 rfl
theorem dX11_standing_35 : decode cX11_standing 35 = .ok (.goto (-31), 3) := wn_at gdX11_standing_30 3 rfl
theorem dX11_standing_38 : decode cX11_standing 38 = .ok (.iload_n 2, 1) := wn_at gdX11_standing_30 4 rfl
theorem dX11_standing_39 : decode cX11_standing 39 = .ok (.ireturn, 1) := wn_at gdX11_standing_30 5 rfl
theorem gdX11_floor_0 : ∀ e ∈ ([(0, .aload_n 0, 1), (1, .iload_n 1, 1), (2, .invokevirtual 299, 3), (5, .ifCond .eq 15, 3), (8, .iload_n 2, 1), (9, .i2l, 1), (10, .lconst 0, 1), (11, .ldc2_w 302, 3), (14, .invokestatic 131, 3), (17, .ifCond .ne 5, 3)] : List (Nat × Instr × Nat)), decode cX11_floor e.1 = .ok e.2 := wn_all _ 0 (by decide +kernel)
theorem dX11_floor_0 : decode cX11_floor 0 = .ok (.aload_n 0, 1) := wn_at gdX11_floor_0 0 rfl
theorem dX11_floor_1 : decode cX11_floor 1 = .ok (.iload_n 1, 1) := wn_at gdX11_floor_0 1 rfl
theorem dX11_floor_2 : decode cX11_floor 2 = .ok (.invokevirtual 299, 3) := wn_at gdX11_floor_0 2 rfl
theorem dX11_floor_5 : decode cX11_floor 5 = .ok (.ifCond .eq 15, 3) := wn_at gdX11_floor_0 3 rfl
theorem dX11_floor_8 : decode cX11_floor 8 = .ok (.iload_n 2, 1) := wn_at gdX11_floor_0 4 rfl
theorem dX11_floor_9 : decode cX11_floor 9 = .ok (.i2l, 1) := wn_at gdX11_floor_0 5 rfl
theorem dX11_floor_10 : decode cX11_floor 10 = .ok (.lconst 0, 1) := wn_at gdX11_floor_0 6 rfl
theorem dX11_floor_11 : decode cX11_floor 11 = .ok (.ldc2_w 302, 3) := wn_at gdX11_floor_0 7 rfl
theorem dX11_floor_14 : decode cX11_floor 14 = .ok (.invokestatic 131, 3) := wn_at gdX11_floor_0 8 rfl
theorem dX11_floor_17 : decode cX11_floor 17 = .ok (.ifCond .ne 5, 3) := wn_at gdX11_floor_0 9 rfl
theorem gdX11_floor_20 : ∀ e ∈ ([(20, .iconst (-1), 1), (21, .ireturn, 1), (22, .iload_n 2, 1), (23, .iconst 2, 1), (24, .if_icmp .ne 11, 3), (27, .aload_n 0, 1), (28, .iload_n 1, 1), (29, .invokevirtual 304, 3), (32, .goto 34, 3), (35, .aload_n 0, 1)] : List (Nat × Instr × Nat)), decode cX11_floor e.1 = .ok e.2 := wn_all _ 20 (by decide +kernel)
theorem dX11_floor_20 : decode cX11_floor 20 = .ok (.iconst (-1), 1) := wn_at gdX11_floor_20 0 rfl
theorem dX11_floor_21 : decode cX11_floor 21 = .ok (.ireturn, 1) := wn_at gdX11_floor_20 1 rfl
theorem dX11_floor_22 : decode cX11_floor 22 = .ok (.iload_n 2, 1) := wn_at gdX11_floor_20 2 rfl
theorem dX11_floor_23 : decode cX11_floor 23 = .ok (.iconst 2, 1) := wn_at gdX11_floor_20 3 rfl
theorem dX11_floor_24 : decode cX11_floor 24 = .ok (.if_icmp .ne 11, 3) := wn_at gdX11_floor_20 4 rfl
theorem dX11_floor_27 : decode cX11_floor 27 = .ok (.aload_n 0, 1) := wn_at gdX11_floor_20 5 rfl
theorem dX11_floor_28 : decode cX11_floor 28 = .ok (.iload_n 1, 1) := wn_at gdX11_floor_20 6 rfl
theorem dX11_floor_29 : decode cX11_floor 29 = .ok (.invokevirtual 304, 3) := wn_at gdX11_floor_20 7 rfl
theorem dX11_floor_32 : decode cX11_floor 32 = .ok (.goto 34, 3) := wn_at gdX11_floor_20 8 rfl
theorem dX11_floor_35 : decode cX11_floor 35 = .ok (.aload_n 0, 1) := wn_at gdX11_floor_20 9 rfl
theorem gdX11_floor_36 : ∀ e ∈ ([(36, .getfield 45, 3), (39, .bipush 10, 2), (41, .iconst 2, 1), (42, .iload_n 1, 1), (43, .imul, 1), (44, .iadd, 1), (45, .iaload, 1), (46, .i2l, 1), (47, .aload_n 0, 1), (48, .getfield 45, 3)] : List (Nat × Instr × Nat)), decode cX11_floor e.1 = .ok e.2 := wn_all _ 36 (by decide +kernel)
theorem dX11_floor_36 : decode cX11_floor 36 = .ok (.getfield 45, 3) := wn_at gdX11_floor_36 0 rfl
theorem dX11_floor_39 : decode cX11_floor 39 = .ok (.bipush 10, 2) := wn_at gdX11_floor_36 1 rfl
theorem dX11_floor_41 : decode cX11_floor 41 = .ok (.iconst 2, 1) := wn_at gdX11_floor_36 2 rfl
theorem dX11_floor_42 : decode cX11_floor 42 = .ok (.iload_n 1, 1) := wn_at gdX11_floor_36 3 rfl
theorem dX11_floor_43 : decode cX11_floor 43 = .ok (.imul, 1) := wn_at gdX11_floor_36 4 rfl
theorem dX11_floor_44 : decode cX11_floor 44 = .ok (.iadd, 1) := wn_at gdX11_floor_36 5 rfl
theorem dX11_floor_45 : decode cX11_floor 45 = .ok (.iaload, 1) := wn_at gdX11_floor_36 6 rfl
theorem dX11_floor_46 : decode cX11_floor 46 = .ok (.i2l, 1) := wn_at gdX11_floor_36 7 rfl
theorem dX11_floor_47 : decode cX11_floor 47 = .ok (.aload_n 0, 1) := wn_at gdX11_floor_36 8 rfl
theorem dX11_floor_48 : decode cX11_floor 48 = .ok (.getfield 45, 3) := wn_at gdX11_floor_36 9 rfl
theorem gdX11_floor_51 : ∀ e ∈ ([(51, .bipush 10, 2), (53, .iconst 2, 1), (54, .iload_n 1, 1), (55, .imul, 1), (56, .iadd, 1), (57, .iconst 1, 1), (58, .iadd, 1), (59, .iaload, 1), (60, .i2l, 1), (61, .iload_n 2, 1)] : List (Nat × Instr × Nat)), decode cX11_floor e.1 = .ok e.2 := wn_all _ 51 (by decide +kernel)
theorem dX11_floor_51 : decode cX11_floor 51 = .ok (.bipush 10, 2) := wn_at gdX11_floor_51 0 rfl
theorem dX11_floor_53 : decode cX11_floor 53 = .ok (.iconst 2, 1) := wn_at gdX11_floor_51 1 rfl
theorem dX11_floor_54 : decode cX11_floor 54 = .ok (.iload_n 1, 1) := wn_at gdX11_floor_51 2 rfl
theorem dX11_floor_55 : decode cX11_floor 55 = .ok (.imul, 1) := wn_at gdX11_floor_51 3 rfl
theorem dX11_floor_56 : decode cX11_floor 56 = .ok (.iadd, 1) := wn_at gdX11_floor_51 4 rfl
theorem dX11_floor_57 : decode cX11_floor 57 = .ok (.iconst 1, 1) := wn_at gdX11_floor_51 5 rfl
theorem dX11_floor_58 : decode cX11_floor 58 = .ok (.iadd, 1) := wn_at gdX11_floor_51 6 rfl
theorem dX11_floor_59 : decode cX11_floor 59 = .ok (.iaload, 1) := wn_at gdX11_floor_51 7 rfl
theorem dX11_floor_60 : decode cX11_floor 60 = .ok (.i2l, 1) := wn_at gdX11_floor_51 8 rfl
theorem dX11_floor_61 : decode cX11_floor 61 = .ok (.iload_n 2, 1) := wn_at gdX11_floor_51 9 rfl
theorem gdX11_floor_62 : ∀ e ∈ ([(62, .invokestatic 307, 3), (65, .l2i, 1), (66, .ireturn, 1)] : List (Nat × Instr × Nat)), decode cX11_floor e.1 = .ok e.2 := wn_all _ 62 (by decide +kernel)
theorem dX11_floor_62 : decode cX11_floor 62 = .ok (.invokestatic 307, 3) := wn_at gdX11_floor_62 0 rfl
theorem dX11_floor_65 : decode cX11_floor 65 = .ok (.l2i, 1) := wn_at gdX11_floor_62 1 rfl
theorem dX11_floor_66 : decode cX11_floor 66 = .ok (.ireturn, 1) := wn_at gdX11_floor_62 2 rfl
theorem gdX11_stair_0 : ∀ e ∈ ([(0, .aload_n 0, 1), (1, .iload_n 1, 1), (2, .invokevirtual 311, 3), (5, .ifCond .eq 15, 3), (8, .iload_n 2, 1), (9, .i2l, 1), (10, .lconst 0, 1), (11, .ldc2_w 314, 3), (14, .invokestatic 131, 3), (17, .ifCond .ne 5, 3)] : List (Nat × Instr × Nat)), decode cX11_stair e.1 = .ok e.2 := wn_all _ 0 (by decide +kernel)
theorem dX11_stair_0 : decode cX11_stair 0 = .ok (.aload_n 0, 1) := wn_at gdX11_stair_0 0 rfl
theorem dX11_stair_1 : decode cX11_stair 1 = .ok (.iload_n 1, 1) := wn_at gdX11_stair_0 1 rfl
theorem dX11_stair_2 : decode cX11_stair 2 = .ok (.invokevirtual 311, 3) := wn_at gdX11_stair_0 2 rfl
theorem dX11_stair_5 : decode cX11_stair 5 = .ok (.ifCond .eq 15, 3) := wn_at gdX11_stair_0 3 rfl
theorem dX11_stair_8 : decode cX11_stair 8 = .ok (.iload_n 2, 1) := wn_at gdX11_stair_0 4 rfl
theorem dX11_stair_9 : decode cX11_stair 9 = .ok (.i2l, 1) := wn_at gdX11_stair_0 5 rfl
theorem dX11_stair_10 : decode cX11_stair 10 = .ok (.lconst 0, 1) := wn_at gdX11_stair_0 6 rfl
theorem dX11_stair_11 : decode cX11_stair 11 = .ok (.ldc2_w 314, 3) := wn_at gdX11_stair_0 7 rfl
theorem dX11_stair_14 : decode cX11_stair 14 = .ok (.invokestatic 131, 3) := wn_at gdX11_stair_0 8 rfl
theorem dX11_stair_17 : decode cX11_stair 17 = .ok (.ifCond .ne 5, 3) := wn_at gdX11_stair_0 9 rfl
theorem gdX11_stair_20 : ∀ e ∈ ([(20, .iconst (-1), 1), (21, .ireturn, 1), (22, .iload_n 2, 1), (23, .iconst 3, 1), (24, .if_icmp .ge 12, 3), (27, .aload_n 0, 1), (28, .iload_n 1, 1), (29, .iload_n 2, 1), (30, .invokevirtual 283, 3), (33, .goto 24, 3)] : List (Nat × Instr × Nat)), decode cX11_stair e.1 = .ok e.2 := wn_all _ 20 (by decide +kernel)
theorem dX11_stair_20 : decode cX11_stair 20 = .ok (.iconst (-1), 1) := wn_at gdX11_stair_20 0 rfl
theorem dX11_stair_21 : decode cX11_stair 21 = .ok (.ireturn, 1) := wn_at gdX11_stair_20 1 rfl
theorem dX11_stair_22 : decode cX11_stair 22 = .ok (.iload_n 2, 1) := wn_at gdX11_stair_20 2 rfl
theorem dX11_stair_23 : decode cX11_stair 23 = .ok (.iconst 3, 1) := wn_at gdX11_stair_20 3 rfl
theorem dX11_stair_24 : decode cX11_stair 24 = .ok (.if_icmp .ge 12, 3) := wn_at gdX11_stair_20 4 rfl
theorem dX11_stair_27 : decode cX11_stair 27 = .ok (.aload_n 0, 1) := wn_at gdX11_stair_20 5 rfl
theorem dX11_stair_28 : decode cX11_stair 28 = .ok (.iload_n 1, 1) := wn_at gdX11_stair_20 6 rfl
theorem dX11_stair_29 : decode cX11_stair 29 = .ok (.iload_n 2, 1) := wn_at gdX11_stair_20 7 rfl
theorem dX11_stair_30 : decode cX11_stair 30 = .ok (.invokevirtual 283, 3) := wn_at gdX11_stair_20 8 rfl
theorem dX11_stair_33 : decode cX11_stair 33 = .ok (.goto 24, 3) := wn_at gdX11_stair_20 9 rfl
theorem gdX11_stair_36 : ∀ e ∈ ([(36, .aload_n 0, 1), (37, .iload_n 1, 1), (38, .iconst 3, 1), (39, .invokevirtual 283, 3), (42, .i2l, 1), (43, .aload_n 0, 1), (44, .iload_n 1, 1), (45, .iconst 4, 1), (46, .invokevirtual 283, 3), (49, .i2l, 1)] : List (Nat × Instr × Nat)), decode cX11_stair e.1 = .ok e.2 := wn_all _ 36 (by decide +kernel)
theorem dX11_stair_36 : decode cX11_stair 36 = .ok (.aload_n 0, 1) := wn_at gdX11_stair_36 0 rfl
theorem dX11_stair_37 : decode cX11_stair 37 = .ok (.iload_n 1, 1) := wn_at gdX11_stair_36 1 rfl
theorem dX11_stair_38 : decode cX11_stair 38 = .ok (.iconst 3, 1) := wn_at gdX11_stair_36 2 rfl
theorem dX11_stair_39 : decode cX11_stair 39 = .ok (.invokevirtual 283, 3) := wn_at gdX11_stair_36 3 rfl
theorem dX11_stair_42 : decode cX11_stair 42 = .ok (.i2l, 1) := wn_at gdX11_stair_36 4 rfl
theorem dX11_stair_43 : decode cX11_stair 43 = .ok (.aload_n 0, 1) := wn_at gdX11_stair_36 5 rfl
theorem dX11_stair_44 : decode cX11_stair 44 = .ok (.iload_n 1, 1) := wn_at gdX11_stair_36 6 rfl
theorem dX11_stair_45 : decode cX11_stair 45 = .ok (.iconst 4, 1) := wn_at gdX11_stair_36 7 rfl
theorem dX11_stair_46 : decode cX11_stair 46 = .ok (.invokevirtual 283, 3) := wn_at gdX11_stair_36 8 rfl
theorem dX11_stair_49 : decode cX11_stair 49 = .ok (.i2l, 1) := wn_at gdX11_stair_36 9 rfl
theorem gdX11_stair_50 : ∀ e ∈ ([(50, .iload_n 2, 1), (51, .iconst 3, 1), (52, .isub, 1), (53, .invokestatic 307, 3), (56, .l2i, 1), (57, .ireturn, 1)] : List (Nat × Instr × Nat)), decode cX11_stair e.1 = .ok e.2 := wn_all _ 50 (by decide +kernel)
theorem dX11_stair_50 : decode cX11_stair 50 = .ok (.iload_n 2, 1) := wn_at gdX11_stair_50 0 rfl
theorem dX11_stair_51 : decode cX11_stair 51 = .ok (.iconst 3, 1) := wn_at gdX11_stair_50 1 rfl
theorem dX11_stair_52 : decode cX11_stair 52 = .ok (.isub, 1) := wn_at gdX11_stair_50 2 rfl
theorem dX11_stair_53 : decode cX11_stair 53 = .ok (.invokestatic 307, 3) := wn_at gdX11_stair_50 3 rfl
theorem dX11_stair_56 : decode cX11_stair 56 = .ok (.l2i, 1) := wn_at gdX11_stair_50 4 rfl
theorem dX11_stair_57 : decode cX11_stair 57 = .ok (.ireturn, 1) := wn_at gdX11_stair_50 5 rfl
theorem gdX11_thing_0 : ∀ e ∈ ([(0, .aload_n 0, 1), (1, .iload_n 1, 1), (2, .invokevirtual 316, 3), (5, .ifCond .eq 24, 3), (8, .iload_n 2, 1), (9, .i2l, 1), (10, .lconst 0, 1), (11, .ldc2_w 319, 3), (14, .invokestatic 131, 3), (17, .ifCond .eq 12, 3)] : List (Nat × Instr × Nat)), decode cX11_thing e.1 = .ok e.2 := wn_all _ 0 (by decide +kernel)
theorem dX11_thing_0 : decode cX11_thing 0 = .ok (.aload_n 0, 1) := wn_at gdX11_thing_0 0 rfl
theorem dX11_thing_1 : decode cX11_thing 1 = .ok (.iload_n 1, 1) := wn_at gdX11_thing_0 1 rfl
theorem dX11_thing_2 : decode cX11_thing 2 = .ok (.invokevirtual 316, 3) := wn_at gdX11_thing_0 2 rfl
theorem dX11_thing_5 : decode cX11_thing 5 = .ok (.ifCond .eq 24, 3) := wn_at gdX11_thing_0 3 rfl
theorem dX11_thing_8 : decode cX11_thing 8 = .ok (.iload_n 2, 1) := wn_at gdX11_thing_0 4 rfl
theorem dX11_thing_9 : decode cX11_thing 9 = .ok (.i2l, 1) := wn_at gdX11_thing_0 5 rfl
theorem dX11_thing_10 : decode cX11_thing 10 = .ok (.lconst 0, 1) := wn_at gdX11_thing_0 6 rfl
theorem dX11_thing_11 : decode cX11_thing 11 = .ok (.ldc2_w 319, 3) := wn_at gdX11_thing_0 7 rfl
theorem dX11_thing_14 : decode cX11_thing 14 = .ok (.invokestatic 131, 3) := wn_at gdX11_thing_0 8 rfl
theorem dX11_thing_17 : decode cX11_thing 17 = .ok (.ifCond .eq 12, 3) := wn_at gdX11_thing_0 9 rfl
theorem gdX11_thing_20 : ∀ e ∈ ([(20, .aload_n 0, 1), (21, .iload_n 1, 1), (22, .iload_n 2, 1), (23, .invokevirtual 296, 3), (26, .goto 5, 3), (29, .bipush (-2), 2), (31, .ireturn, 1)] : List (Nat × Instr × Nat)), decode cX11_thing e.1 = .ok e.2 := wn_all _ 20 (by decide +kernel)
theorem dX11_thing_20 : decode cX11_thing 20 = .ok (.aload_n 0, 1) := wn_at gdX11_thing_20 0 rfl
theorem dX11_thing_21 : decode cX11_thing 21 = .ok (.iload_n 1, 1) := wn_at gdX11_thing_20 1 rfl
theorem dX11_thing_22 : decode cX11_thing 22 = .ok (.iload_n 2, 1) := wn_at gdX11_thing_20 2 rfl
theorem dX11_thing_23 : decode cX11_thing 23 = .ok (.invokevirtual 296, 3) := wn_at gdX11_thing_20 3 rfl
theorem dX11_thing_26 : decode cX11_thing 26 = .ok (.goto 5, 3) := wn_at gdX11_thing_20 4 rfl
theorem dX11_thing_29 : decode cX11_thing 29 = .ok (.bipush (-2), 2) := wn_at gdX11_thing_20 5 rfl
theorem dX11_thing_31 : decode cX11_thing 31 = .ok (.ireturn, 1) := wn_at gdX11_thing_20 6 rfl
theorem gdX11_age_0 : ∀ e ∈ ([(0, .aload_n 0, 1), (1, .iload_n 1, 1), (2, .invokevirtual 316, 3), (5, .ifCond .eq 29, 3), (8, .iload_n 2, 1), (9, .i2l, 1), (10, .lconst 0, 1), (11, .lconst 1, 1), (12, .invokestatic 131, 3), (15, .ifCond .eq 19, 3)] : List (Nat × Instr × Nat)), decode cX11_age e.1 = .ok e.2 := wn_all _ 0 (by decide +kernel)
theorem dX11_age_0 : decode cX11_age 0 = .ok (.aload_n 0, 1) := wn_at gdX11_age_0 0 rfl
theorem dX11_age_1 : decode cX11_age 1 = .ok (.iload_n 1, 1) := wn_at gdX11_age_0 1 rfl
theorem dX11_age_2 : decode cX11_age 2 = .ok (.invokevirtual 316, 3) := wn_at gdX11_age_0 2 rfl
theorem dX11_age_5 : decode cX11_age 5 = .ok (.ifCond .eq 29, 3) := wn_at gdX11_age_0 3 rfl
theorem dX11_age_8 : decode cX11_age 8 = .ok (.iload_n 2, 1) := wn_at gdX11_age_0 4 rfl
theorem dX11_age_9 : decode cX11_age 9 = .ok (.i2l, 1) := wn_at gdX11_age_0 5 rfl
theorem dX11_age_10 : decode cX11_age 10 = .ok (.lconst 0, 1) := wn_at gdX11_age_0 6 rfl
theorem dX11_age_11 : decode cX11_age 11 = .ok (.lconst 1, 1) := wn_at gdX11_age_0 7 rfl
theorem dX11_age_12 : decode cX11_age 12 = .ok (.invokestatic 131, 3) := wn_at gdX11_age_0 8 rfl
theorem dX11_age_15 : decode cX11_age 15 = .ok (.ifCond .eq 19, 3) := wn_at gdX11_age_0 9 rfl
theorem gdX11_age_18 : ∀ e ∈ ([(18, .aload_n 0, 1), (19, .getfield 48, 3), (22, .iload_n 1, 1), (23, .laload, 1), (24, .ldc2_w 281, 3), (27, .iload_n 2, 1), (28, .invokestatic 307, 3), (31, .goto 6, 3), (34, .ldc2_w 321, 3), (37, .lreturn, 1)] : List (Nat × Instr × Nat)), decode cX11_age e.1 = .ok e.2 := wn_all _ 18 (by decide +kernel)
theorem dX11_age_18 : decode cX11_age 18 = .ok (.aload_n 0, 1) := wn_at gdX11_age_18 0 rfl
theorem dX11_age_19 : decode cX11_age 19 = .ok (.getfield 48, 3) := wn_at gdX11_age_18 1 rfl
theorem dX11_age_22 : decode cX11_age 22 = .ok (.iload_n 1, 1) := wn_at gdX11_age_18 2 rfl
theorem dX11_age_23 : decode cX11_age 23 = .ok (.laload, 1) := wn_at gdX11_age_18 3 rfl
theorem dX11_age_24 : decode cX11_age 24 = .ok (.ldc2_w 281, 3) := wn_at gdX11_age_18 4 rfl
theorem dX11_age_27 : decode cX11_age 27 = .ok (.iload_n 2, 1) := wn_at gdX11_age_18 5 rfl
theorem dX11_age_28 : decode cX11_age 28 = .ok (.invokestatic 307, 3) := wn_at gdX11_age_18 6 rfl
theorem dX11_age_31 : decode cX11_age 31 = .ok (.goto 6, 3) := wn_at gdX11_age_18 7 rfl
theorem dX11_age_34 : decode cX11_age 34 = .ok (.ldc2_w 321, 3) := wn_at gdX11_age_18 8 rfl
theorem dX11_age_37 : decode cX11_age 37 = .ok (.lreturn, 1) := wn_at gdX11_age_18 9 rfl
theorem gdX11_older_0 : ∀ e ∈ ([(0, .aload_n 0, 1), (1, .iload_n 1, 1), (2, .invokevirtual 316, 3), (5, .ifCond .eq 11, 3), (8, .aload_n 0, 1), (9, .iload_n 2, 1), (10, .invokevirtual 316, 3), (13, .ifCond .ne 6, 3), (16, .bipush (-2), 2), (18, .ireturn, 1)] : List (Nat × Instr × Nat)), decode cX11_older e.1 = .ok e.2 := wn_all _ 0 (by decide +kernel)
theorem dX11_older_0 : decode cX11_older 0 = .ok (.aload_n 0, 1) := wn_at gdX11_older_0 0 rfl
theorem dX11_older_1 : decode cX11_older 1 = .ok (.iload_n 1, 1) := wn_at gdX11_older_0 1 rfl
theorem dX11_older_2 : decode cX11_older 2 = .ok (.invokevirtual 316, 3) := wn_at gdX11_older_0 2 rfl
theorem dX11_older_5 : decode cX11_older 5 = .ok (.ifCond .eq 11, 3) := wn_at gdX11_older_0 3 rfl
theorem dX11_older_8 : decode cX11_older 8 = .ok (.aload_n 0, 1) := wn_at gdX11_older_0 4 rfl
theorem dX11_older_9 : decode cX11_older 9 = .ok (.iload_n 2, 1) := wn_at gdX11_older_0 5 rfl
theorem dX11_older_10 : decode cX11_older 10 = .ok (.invokevirtual 316, 3) := wn_at gdX11_older_0 6 rfl
theorem dX11_older_13 : decode cX11_older 13 = .ok (.ifCond .ne 6, 3) := wn_at gdX11_older_0 7 rfl
theorem dX11_older_16 : decode cX11_older 16 = .ok (.bipush (-2), 2) := wn_at gdX11_older_0 8 rfl
theorem dX11_older_18 : decode cX11_older 18 = .ok (.ireturn, 1) := wn_at gdX11_older_0 9 rfl
theorem gdX11_older_19 : ∀ e ∈ ([(19, .aload_n 0, 1), (20, .getfield 48, 3), (23, .iload_n 1, 1), (24, .laload, 1), (25, .aload_n 0, 1), (26, .getfield 48, 3), (29, .iload_n 2, 1), (30, .laload, 1), (31, .lcmp, 1), (32, .ifCond .le 7, 3)] : List (Nat × Instr × Nat)), decode cX11_older e.1 = .ok e.2 := wn_all _ 19 (by decide +kernel)
theorem dX11_older_19 : decode cX11_older 19 = .ok (.aload_n 0, 1) := wn_at gdX11_older_19 0 rfl
theorem dX11_older_20 : decode cX11_older 20 = .ok (.getfield 48, 3) := wn_at gdX11_older_19 1 rfl
theorem dX11_older_23 : decode cX11_older 23 = .ok (.iload_n 1, 1) := wn_at gdX11_older_19 2 rfl
theorem dX11_older_24 : decode cX11_older 24 = .ok (.laload, 1) := wn_at gdX11_older_19 3 rfl
theorem dX11_older_25 : decode cX11_older 25 = .ok (.aload_n 0, 1) := wn_at gdX11_older_19 4 rfl
theorem dX11_older_26 : decode cX11_older 26 = .ok (.getfield 48, 3) := wn_at gdX11_older_19 5 rfl
theorem dX11_older_29 : decode cX11_older 29 = .ok (.iload_n 2, 1) := wn_at gdX11_older_19 6 rfl
theorem dX11_older_30 : decode cX11_older 30 = .ok (.laload, 1) := wn_at gdX11_older_19 7 rfl
theorem dX11_older_31 : decode cX11_older 31 = .ok (.lcmp, 1) := wn_at gdX11_older_19 8 rfl
theorem dX11_older_32 : decode cX11_older 32 = .ok (.ifCond .le 7, 3) := wn_at gdX11_older_19 9 rfl
theorem gdX11_older_35 : ∀ e ∈ ([(35, .iconst 1, 1), (36, .goto 24, 3), (39, .aload_n 0, 1), (40, .getfield 48, 3), (43, .iload_n 1, 1), (44, .laload, 1), (45, .aload_n 0, 1), (46, .getfield 48, 3), (49, .iload_n 2, 1), (50, .laload, 1)] : List (Nat × Instr × Nat)), decode cX11_older e.1 = .ok e.2 := wn_all _ 35 (by decide +kernel)
theorem dX11_older_35 : decode cX11_older 35 = .ok (.iconst 1, 1) := wn_at gdX11_older_35 0 rfl
theorem dX11_older_36 : decode cX11_older 36 = .ok (.goto 24, 3) := wn_at gdX11_older_35 1 rfl
theorem dX11_older_39 : decode cX11_older 39 = .ok (.aload_n 0, 1) := wn_at gdX11_older_35 2 rfl
theorem dX11_older_40 : decode cX11_older 40 = .ok (.getfield 48, 3) := wn_at gdX11_older_35 3 rfl
theorem dX11_older_43 : decode cX11_older 43 = .ok (.iload_n 1, 1) := wn_at gdX11_older_35 4 rfl
theorem dX11_older_44 : decode cX11_older 44 = .ok (.laload, 1) := wn_at gdX11_older_35 5 rfl
theorem dX11_older_45 : decode cX11_older 45 = .ok (.aload_n 0, 1) := wn_at gdX11_older_35 6 rfl
theorem dX11_older_46 : decode cX11_older 46 = .ok (.getfield 48, 3) := wn_at gdX11_older_35 7 rfl
theorem dX11_older_49 : decode cX11_older 49 = .ok (.iload_n 2, 1) := wn_at gdX11_older_35 8 rfl
theorem dX11_older_50 : decode cX11_older 50 = .ok (.laload, 1) := wn_at gdX11_older_35 9 rfl
theorem gdX11_older_51 : ∀ e ∈ ([(51, .lcmp, 1), (52, .ifCond .ge 7, 3), (55, .iconst (-1), 1), (56, .goto 4, 3), (59, .iconst 0, 1), (60, .ireturn, 1)] : List (Nat × Instr × Nat)), decode cX11_older e.1 = .ok e.2 := wn_all _ 51 (by decide +kernel)
theorem dX11_older_51 : decode cX11_older 51 = .ok (.lcmp, 1) := wn_at gdX11_older_51 0 rfl
theorem dX11_older_52 : decode cX11_older 52 = .ok (.ifCond .ge 7, 3) := wn_at gdX11_older_51 1 rfl
theorem dX11_older_55 : decode cX11_older 55 = .ok (.iconst (-1), 1) := wn_at gdX11_older_51 2 rfl
theorem dX11_older_56 : decode cX11_older 56 = .ok (.goto 4, 3) := wn_at gdX11_older_51 3 rfl
theorem dX11_older_59 : decode cX11_older 59 = .ok (.iconst 0, 1) := wn_at gdX11_older_51 4 rfl
theorem dX11_older_60 : decode cX11_older 60 = .ok (.ireturn, 1) := wn_at gdX11_older_51 5 rfl
theorem gdX11_setsOff_0 : ∀ e ∈ ([(0, .bipush 90, 2), (2, .iconst 4, 1), (3, .iload_n 1, 1), (4, .imul, 1), (5, .iadd, 1), (6, .istore_n 3, 1), (7, .aload_n 0, 1), (8, .getfield 45, 3), (11, .iload_n 3, 1), (12, .iconst 3, 1)] : List (Nat × Instr × Nat)), decode cX11_setsOff e.1 = .ok e.2 := wn_all _ 0 (by decide +kernel)
theorem dX11_setsOff_0 : decode cX11_setsOff 0 = .ok (.bipush 90, 2) := wn_at gdX11_setsOff_0 0 rfl
theorem dX11_setsOff_2 : decode cX11_setsOff 2 = .ok (.iconst 4, 1) := wn_at gdX11_setsOff_0 1 rfl
theorem dX11_setsOff_3 : decode cX11_setsOff 3 = .ok (.iload_n 1, 1) := wn_at gdX11_setsOff_0 2 rfl
theorem dX11_setsOff_4 : decode cX11_setsOff 4 = .ok (.imul, 1) := wn_at gdX11_setsOff_0 3 rfl
theorem dX11_setsOff_5 : decode cX11_setsOff 5 = .ok (.iadd, 1) := wn_at gdX11_setsOff_0 4 rfl
theorem dX11_setsOff_6 : decode cX11_setsOff 6 = .ok (.istore_n 3, 1) := wn_at gdX11_setsOff_0 5 rfl
theorem dX11_setsOff_7 : decode cX11_setsOff 7 = .ok (.aload_n 0, 1) := wn_at gdX11_setsOff_0 6 rfl
theorem dX11_setsOff_8 : decode cX11_setsOff 8 = .ok (.getfield 45, 3) := wn_at gdX11_setsOff_0 7 rfl
theorem dX11_setsOff_11 : decode cX11_setsOff 11 = .ok (.iload_n 3, 1) := wn_at gdX11_setsOff_0 8 rfl
theorem dX11_setsOff_12 : decode cX11_setsOff 12 = .ok (.iconst 3, 1) := wn_at gdX11_setsOff_0 9 rfl
theorem gdX11_setsOff_13 : ∀ e ∈ ([(13, .iadd, 1), (14, .aload_n 0, 1), (15, .iload_n 2, 1), (16, .aload_n 0, 1), (17, .getfield 45, 3), (20, .iload_n 3, 1), (21, .iaload, 1), (22, .invokevirtual 293, 3), (25, .iastore, 1), (26, .aload_n 0, 1)] : List (Nat × Instr × Nat)), decode cX11_setsOff e.1 = .ok e.2 := wn_all _ 13 (by decide +kernel)
theorem dX11_setsOff_13 : decode cX11_setsOff 13 = .ok (.iadd, 1) := wn_at gdX11_setsOff_13 0 rfl
theorem dX11_setsOff_14 : decode cX11_setsOff 14 = .ok (.aload_n 0, 1) := wn_at gdX11_setsOff_13 1 rfl
theorem dX11_setsOff_15 : decode cX11_setsOff 15 = .ok (.iload_n 2, 1) := wn_at gdX11_setsOff_13 2 rfl
theorem dX11_setsOff_16 : decode cX11_setsOff 16 = .ok (.aload_n 0, 1) := wn_at gdX11_setsOff_13 3 rfl
theorem dX11_setsOff_17 : decode cX11_setsOff 17 = .ok (.getfield 45, 3) := wn_at gdX11_setsOff_13 4 rfl
theorem dX11_setsOff_20 : decode cX11_setsOff 20 = .ok (.iload_n 3, 1) := wn_at gdX11_setsOff_13 5 rfl
theorem dX11_setsOff_21 : decode cX11_setsOff 21 = .ok (.iaload, 1) := wn_at gdX11_setsOff_13 6 rfl
theorem dX11_setsOff_22 : decode cX11_setsOff 22 = .ok (.invokevirtual 293, 3) := wn_at gdX11_setsOff_13 7 rfl
theorem dX11_setsOff_25 : decode cX11_setsOff 25 = .ok (.iastore, 1) := wn_at gdX11_setsOff_13 8 rfl
theorem dX11_setsOff_26 : decode cX11_setsOff 26 = .ok (.aload_n 0, 1) := wn_at gdX11_setsOff_13 9 rfl
theorem gdX11_setsOff_27 : ∀ e ∈ ([(27, .getfield 45, 3), (30, .iload_n 3, 1), (31, .iconst (-1), 1), (32, .iastore, 1), (33, .aload_n 0, 1), (34, .getfield 45, 3), (37, .iload_n 3, 1), (38, .iconst 1, 1), (39, .iadd, 1), (40, .iload_n 2, 1)] : List (Nat × Instr × Nat)), decode cX11_setsOff e.1 = .ok e.2 := wn_all _ 27 (by decide +kernel)
theorem dX11_setsOff_27 : decode cX11_setsOff 27 = .ok (.getfield 45, 3) := wn_at gdX11_setsOff_27 0 rfl
theorem dX11_setsOff_30 : decode cX11_setsOff 30 = .ok (.iload_n 3, 1) := wn_at gdX11_setsOff_27 1 rfl
theorem dX11_setsOff_31 : decode cX11_setsOff 31 = .ok (.iconst (-1), 1) := wn_at gdX11_setsOff_27 2 rfl
theorem dX11_setsOff_32 : decode cX11_setsOff 32 = .ok (.iastore, 1) := wn_at gdX11_setsOff_27 3 rfl
theorem dX11_setsOff_33 : decode cX11_setsOff 33 = .ok (.aload_n 0, 1) := wn_at gdX11_setsOff_27 4 rfl
theorem dX11_setsOff_34 : decode cX11_setsOff 34 = .ok (.getfield 45, 3) := wn_at gdX11_setsOff_27 5 rfl
theorem dX11_setsOff_37 : decode cX11_setsOff 37 = .ok (.iload_n 3, 1) := wn_at gdX11_setsOff_27 6 rfl
theorem dX11_setsOff_38 : decode cX11_setsOff 38 = .ok (.iconst 1, 1) := wn_at gdX11_setsOff_27 7 rfl
theorem dX11_setsOff_39 : decode cX11_setsOff 39 = .ok (.iadd, 1) := wn_at gdX11_setsOff_27 8 rfl
theorem dX11_setsOff_40 : decode cX11_setsOff 40 = .ok (.iload_n 2, 1) := wn_at gdX11_setsOff_27 9 rfl
theorem gdX11_setsOff_41 : ∀ e ∈ ([(41, .iastore, 1), (42, .aload_n 0, 1), (43, .getfield 45, 3), (46, .iload_n 3, 1), (47, .iconst 2, 1), (48, .iadd, 1), (49, .iconst 0, 1), (50, .iastore, 1), (51, .return_, 1)] : List (Nat × Instr × Nat)), decode cX11_setsOff e.1 = .ok e.2 := wn_all _ 41 (by decide +kernel)
theorem dX11_setsOff_41 : decode cX11_setsOff 41 = .ok (.iastore, 1) := wn_at gdX11_setsOff_41 0 rfl
theorem dX11_setsOff_42 : decode cX11_setsOff 42 = .ok (.aload_n 0, 1) := wn_at gdX11_setsOff_41 1 rfl
theorem dX11_setsOff_43 : decode cX11_setsOff 43 = .ok (.getfield 45, 3) := wn_at gdX11_setsOff_41 2 rfl
theorem dX11_setsOff_46 : decode cX11_setsOff 46 = .ok (.iload_n 3, 1) := wn_at gdX11_setsOff_41 3 rfl
theorem dX11_setsOff_47 : decode cX11_setsOff 47 = .ok (.iconst 2, 1) := wn_at gdX11_setsOff_41 4 rfl
theorem dX11_setsOff_48 : decode cX11_setsOff 48 = .ok (.iadd, 1) := wn_at gdX11_setsOff_41 5 rfl
theorem dX11_setsOff_49 : decode cX11_setsOff 49 = .ok (.iconst 0, 1) := wn_at gdX11_setsOff_41 6 rfl
theorem dX11_setsOff_50 : decode cX11_setsOff 50 = .ok (.iastore, 1) := wn_at gdX11_setsOff_41 7 rfl
theorem dX11_setsOff_51 : decode cX11_setsOff 51 = .ok (.return_, 1) := wn_at gdX11_setsOff_41 8 rfl
theorem gdX11_go_0 : ∀ e ∈ ([(0, .aload_n 0, 1), (1, .iload_n 1, 1), (2, .invokevirtual 316, 3), (5, .ifCond .eq 34, 3), (8, .aload_n 0, 1), (9, .iload_n 2, 1), (10, .invokevirtual 311, 3), (13, .ifCond .eq 26, 3), (16, .aload_n 0, 1), (17, .iload_n 1, 1)] : List (Nat × Instr × Nat)), decode cX11_go e.1 = .ok e.2 := wn_all _ 0 (by decide +kernel)
theorem dX11_go_0 : decode cX11_go 0 = .ok (.aload_n 0, 1) := wn_at gdX11_go_0 0 rfl
theorem dX11_go_1 : decode cX11_go 1 = .ok (.iload_n 1, 1) := wn_at gdX11_go_0 1 rfl
theorem dX11_go_2 : decode cX11_go 2 = .ok (.invokevirtual 316, 3) := wn_at gdX11_go_0 2 rfl
theorem dX11_go_5 : decode cX11_go 5 = .ok (.ifCond .eq 34, 3) := wn_at gdX11_go_0 3 rfl
theorem dX11_go_8 : decode cX11_go 8 = .ok (.aload_n 0, 1) := wn_at gdX11_go_0 4 rfl
theorem dX11_go_9 : decode cX11_go 9 = .ok (.iload_n 2, 1) := wn_at gdX11_go_0 5 rfl
theorem dX11_go_10 : decode cX11_go 10 = .ok (.invokevirtual 311, 3) := wn_at gdX11_go_0 6 rfl
theorem dX11_go_13 : decode cX11_go 13 = .ok (.ifCond .eq 26, 3) := wn_at gdX11_go_0 7 rfl
theorem dX11_go_16 : decode cX11_go 16 = .ok (.aload_n 0, 1) := wn_at gdX11_go_0 8 rfl
theorem dX11_go_17 : decode cX11_go 17 = .ok (.iload_n 1, 1) := wn_at gdX11_go_0 9 rfl
theorem gdX11_go_18 : ∀ e ∈ ([(18, .iconst 0, 1), (19, .invokevirtual 296, 3), (22, .ifCond .lt 17, 3), (25, .aload_n 0, 1), (26, .iload_n 2, 1), (27, .aload_n 0, 1), (28, .iload_n 1, 1), (29, .iconst 0, 1), (30, .invokevirtual 296, 3), (33, .invokevirtual 293, 3)] : List (Nat × Instr × Nat)), decode cX11_go e.1 = .ok e.2 := wn_all _ 18 (by decide +kernel)
theorem dX11_go_18 : decode cX11_go 18 = .ok (.iconst 0, 1) := wn_at gdX11_go_18 0 rfl
theorem dX11_go_19 : decode cX11_go 19 = .ok (.invokevirtual 296, 3) := wn_at gdX11_go_18 1 rfl
theorem dX11_go_22 : decode cX11_go 22 = .ok (.ifCond .lt 17, 3) := wn_at gdX11_go_18 2 rfl
theorem dX11_go_25 : decode cX11_go 25 = .ok (.aload_n 0, 1) := wn_at gdX11_go_18 3 rfl
theorem dX11_go_26 : decode cX11_go 26 = .ok (.iload_n 2, 1) := wn_at gdX11_go_18 4 rfl
theorem dX11_go_27 : decode cX11_go 27 = .ok (.aload_n 0, 1) := wn_at gdX11_go_18 5 rfl
theorem dX11_go_28 : decode cX11_go 28 = .ok (.iload_n 1, 1) := wn_at gdX11_go_18 6 rfl
theorem dX11_go_29 : decode cX11_go 29 = .ok (.iconst 0, 1) := wn_at gdX11_go_18 7 rfl
theorem dX11_go_30 : decode cX11_go 30 = .ok (.invokevirtual 296, 3) := wn_at gdX11_go_18 8 rfl
theorem dX11_go_33 : decode cX11_go 33 = .ok (.invokevirtual 293, 3) := wn_at gdX11_go_18 9 rfl
theorem gdX11_go_36 : ∀ e ∈ ([(36, .ifCond .ge 5, 3), (39, .iconst 0, 1), (40, .ireturn, 1), (41, .aload_n 0, 1), (42, .iload_n 1, 1), (43, .iload_n 2, 1), (44, .invokevirtual 323, 3), (47, .iconst 1, 1), (48, .ireturn, 1)] : List (Nat × Instr × Nat)), decode cX11_go e.1 = .ok e.2 := wn_all _ 36 (by decide +kernel)
theorem dX11_go_36 : decode cX11_go 36 = .ok (.ifCond .ge 5, 3) := wn_at gdX11_go_36 0 rfl
theorem dX11_go_39 : decode cX11_go 39 = .ok (.iconst 0, 1) := wn_at gdX11_go_36 1 rfl
theorem dX11_go_40 : decode cX11_go 40 = .ok (.ireturn, 1) := wn_at gdX11_go_36 2 rfl
theorem dX11_go_41 : decode cX11_go 41 = .ok (.aload_n 0, 1) := wn_at gdX11_go_36 3 rfl
theorem dX11_go_42 : decode cX11_go 42 = .ok (.iload_n 1, 1) := wn_at gdX11_go_36 4 rfl
theorem dX11_go_43 : decode cX11_go 43 = .ok (.iload_n 2, 1) := wn_at gdX11_go_36 5 rfl
theorem dX11_go_44 : decode cX11_go 44 = .ok (.invokevirtual 323, 3) := wn_at gdX11_go_36 6 rfl
theorem dX11_go_47 : decode cX11_go 47 = .ok (.iconst 1, 1) := wn_at gdX11_go_36 7 rfl
theorem dX11_go_48 : decode cX11_go 48 = .ok (.ireturn, 1) := wn_at gdX11_go_36 8 rfl
theorem gdX11_words_0 : ∀ e ∈ ([(0, .aload_n 0, 1), (1, .iload_n 1, 1), (2, .iconst 0, 1), (3, .invokevirtual 296, 3), (6, .istore_n 2, 1), (7, .aload_n 0, 1), (8, .getfield 42, 3), (11, .iconst 0, 1), (12, .aload_n 0, 1), (13, .getfield 45, 3)] : List (Nat × Instr × Nat)), decode cX11_words e.1 = .ok e.2 := wn_all _ 0 (by decide +kernel)
theorem dX11_words_0 : decode cX11_words 0 = .ok (.aload_n 0, 1) := wn_at gdX11_words_0 0 rfl
theorem dX11_words_1 : decode cX11_words 1 = .ok (.iload_n 1, 1) := wn_at gdX11_words_0 1 rfl
theorem dX11_words_2 : decode cX11_words 2 = .ok (.iconst 0, 1) := wn_at gdX11_words_0 2 rfl
theorem dX11_words_3 : decode cX11_words 3 = .ok (.invokevirtual 296, 3) := wn_at gdX11_words_0 3 rfl
theorem dX11_words_6 : decode cX11_words 6 = .ok (.istore_n 2, 1) := wn_at gdX11_words_0 4 rfl
theorem dX11_words_7 : decode cX11_words 7 = .ok (.aload_n 0, 1) := wn_at gdX11_words_0 5 rfl
theorem dX11_words_8 : decode cX11_words 8 = .ok (.getfield 42, 3) := wn_at gdX11_words_0 6 rfl
theorem dX11_words_11 : decode cX11_words 11 = .ok (.iconst 0, 1) := wn_at gdX11_words_0 7 rfl
theorem dX11_words_12 : decode cX11_words 12 = .ok (.aload_n 0, 1) := wn_at gdX11_words_0 8 rfl
theorem dX11_words_13 : decode cX11_words 13 = .ok (.getfield 45, 3) := wn_at gdX11_words_0 9 rfl
theorem gdX11_words_16 : ∀ e ∈ ([(16, .iconst 3, 1), (17, .iaload, 1), (18, .i2l, 1), (19, .lastore, 1), (20, .aload_n 0, 1), (21, .getfield 42, 3), (24, .iconst 1, 1), (25, .iload_n 1, 1), (26, .i2l, 1), (27, .lastore, 1)] : List (Nat × Instr × Nat)), decode cX11_words e.1 = .ok e.2 := wn_all _ 16 (by decide +kernel)
theorem dX11_words_16 : decode cX11_words 16 = .ok (.iconst 3, 1) := wn_at gdX11_words_16 0 rfl
theorem dX11_words_17 : decode cX11_words 17 = .ok (.iaload, 1) := wn_at gdX11_words_16 1 rfl
theorem dX11_words_18 : decode cX11_words 18 = .ok (.i2l, 1) := wn_at gdX11_words_16 2 rfl
theorem dX11_words_19 : decode cX11_words 19 = .ok (.lastore, 1) := wn_at gdX11_words_16 3 rfl
theorem dX11_words_20 : decode cX11_words 20 = .ok (.aload_n 0, 1) := wn_at gdX11_words_16 4 rfl
theorem dX11_words_21 : decode cX11_words 21 = .ok (.getfield 42, 3) := wn_at gdX11_words_16 5 rfl
theorem dX11_words_24 : decode cX11_words 24 = .ok (.iconst 1, 1) := wn_at gdX11_words_16 6 rfl
theorem dX11_words_25 : decode cX11_words 25 = .ok (.iload_n 1, 1) := wn_at gdX11_words_16 7 rfl
theorem dX11_words_26 : decode cX11_words 26 = .ok (.i2l, 1) := wn_at gdX11_words_16 8 rfl
theorem dX11_words_27 : decode cX11_words 27 = .ok (.lastore, 1) := wn_at gdX11_words_16 9 rfl
theorem gdX11_words_28 : ∀ e ∈ ([(28, .aload_n 0, 1), (29, .getfield 42, 3), (32, .iconst 2, 1), (33, .iload_n 2, 1), (34, .i2l, 1), (35, .lastore, 1), (36, .aload_n 0, 1), (37, .getfield 42, 3), (40, .iconst 3, 1), (41, .aload_n 0, 1)] : List (Nat × Instr × Nat)), decode cX11_words e.1 = .ok e.2 := wn_all _ 28 (by decide +kernel)
theorem dX11_words_28 : decode cX11_words 28 = .ok (.aload_n 0, 1) := wn_at gdX11_words_28 0 rfl
theorem dX11_words_29 : decode cX11_words 29 = .ok (.getfield 42, 3) := wn_at gdX11_words_28 1 rfl
theorem dX11_words_32 : decode cX11_words 32 = .ok (.iconst 2, 1) := wn_at gdX11_words_28 2 rfl
theorem dX11_words_33 : decode cX11_words 33 = .ok (.iload_n 2, 1) := wn_at gdX11_words_28 3 rfl
theorem dX11_words_34 : decode cX11_words 34 = .ok (.i2l, 1) := wn_at gdX11_words_28 4 rfl
theorem dX11_words_35 : decode cX11_words 35 = .ok (.lastore, 1) := wn_at gdX11_words_28 5 rfl
theorem dX11_words_36 : decode cX11_words 36 = .ok (.aload_n 0, 1) := wn_at gdX11_words_28 6 rfl
theorem dX11_words_37 : decode cX11_words 37 = .ok (.getfield 42, 3) := wn_at gdX11_words_28 7 rfl
theorem dX11_words_40 : decode cX11_words 40 = .ok (.iconst 3, 1) := wn_at gdX11_words_28 8 rfl
theorem dX11_words_41 : decode cX11_words 41 = .ok (.aload_n 0, 1) := wn_at gdX11_words_28 9 rfl
theorem gdX11_words_42 : ∀ e ∈ ([(42, .getfield 48, 3), (45, .iload_n 1, 1), (46, .laload, 1), (47, .ldc2_w 281, 3), (50, .ldiv, 1), (51, .lastore, 1), (52, .aload_n 0, 1), (53, .getfield 42, 3), (56, .iconst 4, 1), (57, .aload_n 0, 1)] : List (Nat × Instr × Nat)), decode cX11_words e.1 = .ok e.2 := wn_all _ 42 (by decide +kernel)
theorem dX11_words_42 : decode cX11_words 42 = .ok (.getfield 48, 3) := wn_at gdX11_words_42 0 rfl
theorem dX11_words_45 : decode cX11_words 45 = .ok (.iload_n 1, 1) := wn_at gdX11_words_42 1 rfl
theorem dX11_words_46 : decode cX11_words 46 = .ok (.laload, 1) := wn_at gdX11_words_42 2 rfl
theorem dX11_words_47 : decode cX11_words 47 = .ok (.ldc2_w 281, 3) := wn_at gdX11_words_42 3 rfl
theorem dX11_words_50 : decode cX11_words 50 = .ok (.ldiv, 1) := wn_at gdX11_words_42 4 rfl
theorem dX11_words_51 : decode cX11_words 51 = .ok (.lastore, 1) := wn_at gdX11_words_42 5 rfl
theorem dX11_words_52 : decode cX11_words 52 = .ok (.aload_n 0, 1) := wn_at gdX11_words_42 6 rfl
theorem dX11_words_53 : decode cX11_words 53 = .ok (.getfield 42, 3) := wn_at gdX11_words_42 7 rfl
theorem dX11_words_56 : decode cX11_words 56 = .ok (.iconst 4, 1) := wn_at gdX11_words_42 8 rfl
theorem dX11_words_57 : decode cX11_words 57 = .ok (.aload_n 0, 1) := wn_at gdX11_words_42 9 rfl
theorem gdX11_words_58 : ∀ e ∈ ([(58, .iload_n 2, 1), (59, .invokevirtual 304, 3), (62, .i2l, 1), (63, .lastore, 1), (64, .aload_n 0, 1), (65, .getfield 42, 3), (68, .iconst 5, 1), (69, .sipush 1000, 3), (72, .aload_n 0, 1), (73, .getfield 45, 3)] : List (Nat × Instr × Nat)), decode cX11_words e.1 = .ok e.2 := wn_all _ 58 (by decide +kernel)
theorem dX11_words_58 : decode cX11_words 58 = .ok (.iload_n 2, 1) := wn_at gdX11_words_58 0 rfl
theorem dX11_words_59 : decode cX11_words 59 = .ok (.invokevirtual 304, 3) := wn_at gdX11_words_58 1 rfl
theorem dX11_words_62 : decode cX11_words 62 = .ok (.i2l, 1) := wn_at gdX11_words_58 2 rfl
theorem dX11_words_63 : decode cX11_words 63 = .ok (.lastore, 1) := wn_at gdX11_words_58 3 rfl
theorem dX11_words_64 : decode cX11_words 64 = .ok (.aload_n 0, 1) := wn_at gdX11_words_58 4 rfl
theorem dX11_words_65 : decode cX11_words 65 = .ok (.getfield 42, 3) := wn_at gdX11_words_58 5 rfl
theorem dX11_words_68 : decode cX11_words 68 = .ok (.iconst 5, 1) := wn_at gdX11_words_58 6 rfl
theorem dX11_words_69 : decode cX11_words 69 = .ok (.sipush 1000, 3) := wn_at gdX11_words_58 7 rfl
theorem dX11_words_72 : decode cX11_words 72 = .ok (.aload_n 0, 1) := wn_at gdX11_words_58 8 rfl
theorem dX11_words_73 : decode cX11_words 73 = .ok (.getfield 45, 3) := wn_at gdX11_words_58 9 rfl
theorem gdX11_words_76 : ∀ e ∈ ([(76, .bipush 10, 2), (78, .iconst 2, 1), (79, .iload_n 2, 1), (80, .imul, 1), (81, .iadd, 1), (82, .iaload, 1), (83, .imul, 1), (84, .aload_n 0, 1), (85, .getfield 45, 3), (88, .bipush 10, 2)] : List (Nat × Instr × Nat)), decode cX11_words e.1 = .ok e.2 := wn_all _ 76 (by decide +kernel)
theorem dX11_words_76 : decode cX11_words 76 = .ok (.bipush 10, 2) := wn_at gdX11_words_76 0 rfl
theorem dX11_words_78 : decode cX11_words 78 = .ok (.iconst 2, 1) := wn_at gdX11_words_76 1 rfl
theorem dX11_words_79 : decode cX11_words 79 = .ok (.iload_n 2, 1) := wn_at gdX11_words_76 2 rfl
theorem dX11_words_80 : decode cX11_words 80 = .ok (.imul, 1) := wn_at gdX11_words_76 3 rfl
theorem dX11_words_81 : decode cX11_words 81 = .ok (.iadd, 1) := wn_at gdX11_words_76 4 rfl
theorem dX11_words_82 : decode cX11_words 82 = .ok (.iaload, 1) := wn_at gdX11_words_76 5 rfl
theorem dX11_words_83 : decode cX11_words 83 = .ok (.imul, 1) := wn_at gdX11_words_76 6 rfl
theorem dX11_words_84 : decode cX11_words 84 = .ok (.aload_n 0, 1) := wn_at gdX11_words_76 7 rfl
theorem dX11_words_85 : decode cX11_words 85 = .ok (.getfield 45, 3) := wn_at gdX11_words_76 8 rfl
theorem dX11_words_88 : decode cX11_words 88 = .ok (.bipush 10, 2) := wn_at gdX11_words_76 9 rfl
theorem gdX11_words_90 : ∀ e ∈ ([(90, .iconst 2, 1), (91, .iload_n 2, 1), (92, .imul, 1), (93, .iadd, 1), (94, .iconst 1, 1), (95, .iadd, 1), (96, .iaload, 1), (97, .idiv, 1), (98, .i2l, 1), (99, .lastore, 1)] : List (Nat × Instr × Nat)), decode cX11_words e.1 = .ok e.2 := wn_all _ 90 (by decide +kernel)
theorem dX11_words_90 : decode cX11_words 90 = .ok (.iconst 2, 1) := wn_at gdX11_words_90 0 rfl
theorem dX11_words_91 : decode cX11_words 91 = .ok (.iload_n 2, 1) := wn_at gdX11_words_90 1 rfl
theorem dX11_words_92 : decode cX11_words 92 = .ok (.imul, 1) := wn_at gdX11_words_90 2 rfl
theorem dX11_words_93 : decode cX11_words 93 = .ok (.iadd, 1) := wn_at gdX11_words_90 3 rfl
theorem dX11_words_94 : decode cX11_words 94 = .ok (.iconst 1, 1) := wn_at gdX11_words_90 4 rfl
theorem dX11_words_95 : decode cX11_words 95 = .ok (.iadd, 1) := wn_at gdX11_words_90 5 rfl
theorem dX11_words_96 : decode cX11_words 96 = .ok (.iaload, 1) := wn_at gdX11_words_90 6 rfl
theorem dX11_words_97 : decode cX11_words 97 = .ok (.idiv, 1) := wn_at gdX11_words_90 7 rfl
theorem dX11_words_98 : decode cX11_words 98 = .ok (.i2l, 1) := wn_at gdX11_words_90 8 rfl
theorem dX11_words_99 : decode cX11_words 99 = .ok (.lastore, 1) := wn_at gdX11_words_90 9 rfl
theorem gdX11_words_100 : ∀ e ∈ ([(100, .aload_n 0, 1), (101, .getfield 42, 3), (104, .bipush 6, 2), (106, .lconst 1, 1), (107, .lastore, 1), (108, .aload_n 0, 1), (109, .getfield 42, 3), (112, .bipush 7, 2), (114, .lconst 1, 1), (115, .lastore, 1)] : List (Nat × Instr × Nat)), decode cX11_words e.1 = .ok e.2 := wn_all _ 100 (by decide +kernel)
theorem dX11_words_100 : decode cX11_words 100 = .ok (.aload_n 0, 1) := wn_at gdX11_words_100 0 rfl
theorem dX11_words_101 : decode cX11_words 101 = .ok (.getfield 42, 3) := wn_at gdX11_words_100 1 rfl
theorem dX11_words_104 : decode cX11_words 104 = .ok (.bipush 6, 2) := wn_at gdX11_words_100 2 rfl
theorem dX11_words_106 : decode cX11_words 106 = .ok (.lconst 1, 1) := wn_at gdX11_words_100 3 rfl
theorem dX11_words_107 : decode cX11_words 107 = .ok (.lastore, 1) := wn_at gdX11_words_100 4 rfl
theorem dX11_words_108 : decode cX11_words 108 = .ok (.aload_n 0, 1) := wn_at gdX11_words_100 5 rfl
theorem dX11_words_109 : decode cX11_words 109 = .ok (.getfield 42, 3) := wn_at gdX11_words_100 6 rfl
theorem dX11_words_112 : decode cX11_words 112 = .ok (.bipush 7, 2) := wn_at gdX11_words_100 7 rfl
theorem dX11_words_114 : decode cX11_words 114 = .ok (.lconst 1, 1) := wn_at gdX11_words_100 8 rfl
theorem dX11_words_115 : decode cX11_words 115 = .ok (.lastore, 1) := wn_at gdX11_words_100 9 rfl
theorem gdX11_words_116 : ∀ e ∈ ([(116, .iconst 0, 1), (117, .istore_n 3, 1), (118, .iload_n 3, 1), (119, .aload_n 0, 1), (120, .getfield 45, 3), (123, .iconst 2, 1), (124, .iaload, 1), (125, .if_icmp .ge 57, 3), (128, .aload_n 0, 1), (129, .getfield 48, 3)] : List (Nat × Instr × Nat)), decode cX11_words e.1 = .ok e.2 := wn_all _ 116 (by decide +kernel)
theorem dX11_words_116 : decode cX11_words 116 = .ok (.iconst 0, 1) := wn_at gdX11_words_116 0 rfl
theorem dX11_words_117 : decode cX11_words 117 = .ok (.istore_n 3, 1) := wn_at gdX11_words_116 1 rfl
theorem dX11_words_118 : decode cX11_words 118 = .ok (.iload_n 3, 1) := wn_at gdX11_words_116 2 rfl
theorem dX11_words_119 : decode cX11_words 119 = .ok (.aload_n 0, 1) := wn_at gdX11_words_116 3 rfl
theorem dX11_words_120 : decode cX11_words 120 = .ok (.getfield 45, 3) := wn_at gdX11_words_116 4 rfl
theorem dX11_words_123 : decode cX11_words 123 = .ok (.iconst 2, 1) := wn_at gdX11_words_116 5 rfl
theorem dX11_words_124 : decode cX11_words 124 = .ok (.iaload, 1) := wn_at gdX11_words_116 6 rfl
theorem dX11_words_125 : decode cX11_words 125 = .ok (.if_icmp .ge 57, 3) := wn_at gdX11_words_116 7 rfl
theorem dX11_words_128 : decode cX11_words 128 = .ok (.aload_n 0, 1) := wn_at gdX11_words_116 8 rfl
theorem dX11_words_129 : decode cX11_words 129 = .ok (.getfield 48, 3) := wn_at gdX11_words_116 9 rfl
theorem gdX11_words_132 : ∀ e ∈ ([(132, .iload_n 3, 1), (133, .laload, 1), (134, .aload_n 0, 1), (135, .getfield 48, 3), (138, .iload_n 1, 1), (139, .laload, 1), (140, .lcmp, 1), (141, .ifCond .le 11, 3), (144, .aload_n 0, 1), (145, .getfield 42, 3)] : List (Nat × Instr × Nat)), decode cX11_words e.1 = .ok e.2 := wn_all _ 132 (by decide +kernel)
theorem dX11_words_132 : decode cX11_words 132 = .ok (.iload_n 3, 1) := wn_at gdX11_words_132 0 rfl
theorem dX11_words_133 : decode cX11_words 133 = .ok (.laload, 1) := wn_at gdX11_words_132 1 rfl
theorem dX11_words_134 : decode cX11_words 134 = .ok (.aload_n 0, 1) := wn_at gdX11_words_132 2 rfl
theorem dX11_words_135 : decode cX11_words 135 = .ok (.getfield 48, 3) := wn_at gdX11_words_132 3 rfl
theorem dX11_words_138 : decode cX11_words 138 = .ok (.iload_n 1, 1) := wn_at gdX11_words_132 4 rfl
theorem dX11_words_139 : decode cX11_words 139 = .ok (.laload, 1) := wn_at gdX11_words_132 5 rfl
theorem dX11_words_140 : decode cX11_words 140 = .ok (.lcmp, 1) := wn_at gdX11_words_132 6 rfl
theorem dX11_words_141 : decode cX11_words 141 = .ok (.ifCond .le 11, 3) := wn_at gdX11_words_132 7 rfl
theorem dX11_words_144 : decode cX11_words 144 = .ok (.aload_n 0, 1) := wn_at gdX11_words_132 8 rfl
theorem dX11_words_145 : decode cX11_words 145 = .ok (.getfield 42, 3) := wn_at gdX11_words_132 9 rfl
theorem gdX11_words_148 : ∀ e ∈ ([(148, .bipush 6, 2), (150, .lconst 0, 1), (151, .lastore, 1), (152, .aload_n 0, 1), (153, .getfield 48, 3), (156, .iload_n 3, 1), (157, .laload, 1), (158, .aload_n 0, 1), (159, .getfield 48, 3), (162, .iload_n 1, 1)] : List (Nat × Instr × Nat)), decode cX11_words e.1 = .ok e.2 := wn_all _ 148 (by decide +kernel)
theorem dX11_words_148 : decode cX11_words 148 = .ok (.bipush 6, 2) := wn_at gdX11_words_148 0 rfl
theorem dX11_words_150 : decode cX11_words 150 = .ok (.lconst 0, 1) := wn_at gdX11_words_148 1 rfl
theorem dX11_words_151 : decode cX11_words 151 = .ok (.lastore, 1) := wn_at gdX11_words_148 2 rfl
theorem dX11_words_152 : decode cX11_words 152 = .ok (.aload_n 0, 1) := wn_at gdX11_words_148 3 rfl
theorem dX11_words_153 : decode cX11_words 153 = .ok (.getfield 48, 3) := wn_at gdX11_words_148 4 rfl
theorem dX11_words_156 : decode cX11_words 156 = .ok (.iload_n 3, 1) := wn_at gdX11_words_148 5 rfl
theorem dX11_words_157 : decode cX11_words 157 = .ok (.laload, 1) := wn_at gdX11_words_148 6 rfl
theorem dX11_words_158 : decode cX11_words 158 = .ok (.aload_n 0, 1) := wn_at gdX11_words_148 7 rfl
theorem dX11_words_159 : decode cX11_words 159 = .ok (.getfield 48, 3) := wn_at gdX11_words_148 8 rfl
theorem dX11_words_162 : decode cX11_words 162 = .ok (.iload_n 1, 1) := wn_at gdX11_words_148 9 rfl
theorem gdX11_words_163 : ∀ e ∈ ([(163, .laload, 1), (164, .lcmp, 1), (165, .ifCond .ge 11, 3), (168, .aload_n 0, 1), (169, .getfield 42, 3), (172, .bipush 7, 2), (174, .lconst 0, 1), (175, .lastore, 1), (176, .iinc 3 1, 3), (179, .goto (-61), 3)] : List (Nat × Instr × Nat)), decode cX11_words e.1 = .ok e.2 := wn_all _ 163 (by decide +kernel)
theorem dX11_words_163 : decode cX11_words 163 = .ok (.laload, 1) := wn_at gdX11_words_163 0 rfl
theorem dX11_words_164 : decode cX11_words 164 = .ok (.lcmp, 1) := wn_at gdX11_words_163 1 rfl
theorem dX11_words_165 : decode cX11_words 165 = .ok (.ifCond .ge 11, 3) := wn_at gdX11_words_163 2 rfl
theorem dX11_words_168 : decode cX11_words 168 = .ok (.aload_n 0, 1) := wn_at gdX11_words_163 3 rfl
theorem dX11_words_169 : decode cX11_words 169 = .ok (.getfield 42, 3) := wn_at gdX11_words_163 4 rfl
theorem dX11_words_172 : decode cX11_words 172 = .ok (.bipush 7, 2) := wn_at gdX11_words_163 5 rfl
theorem dX11_words_174 : decode cX11_words 174 = .ok (.lconst 0, 1) := wn_at gdX11_words_163 6 rfl
theorem dX11_words_175 : decode cX11_words 175 = .ok (.lastore, 1) := wn_at gdX11_words_163 7 rfl
theorem dX11_words_176 : decode cX11_words 176 = .ok (.iinc 3 1, 3) := wn_at gdX11_words_163 8 rfl
theorem dX11_words_179 : decode cX11_words 179 = .ok (.goto (-61), 3) := wn_at gdX11_words_163 9 rfl
theorem gdX11_words_182 : ∀ e ∈ ([(182, .return_, 1)] : List (Nat × Instr × Nat)), decode cX11_words e.1 = .ok e.2 := wn_all _ 182 (by decide +kernel)
theorem dX11_words_182 : decode cX11_words 182 = .ok (.return_, 1) := wn_at gdX11_words_182 0 rfl
theorem gdX11_sent_0 : ∀ e ∈ ([(0, .aload_n 0, 1), (1, .iload_n 2, 1), (2, .invokevirtual 326, 3), (5, .iconst 0, 1), (6, .istore_n 3, 1), (7, .iload_n 3, 1), (8, .aload_n 0, 1), (9, .getfield 23, 3), (12, .iload_n 1, 1), (13, .iaload, 1)] : List (Nat × Instr × Nat)), decode cX11_sent e.1 = .ok e.2 := wn_all _ 0 (by decide +kernel)
theorem dX11_sent_0 : decode cX11_sent 0 = .ok (.aload_n 0, 1) := wn_at gdX11_sent_0 0 rfl
theorem dX11_sent_1 : decode cX11_sent 1 = .ok (.iload_n 2, 1) := wn_at gdX11_sent_0 1 rfl
theorem dX11_sent_2 : decode cX11_sent 2 = .ok (.invokevirtual 326, 3) := wn_at gdX11_sent_0 2 rfl
theorem dX11_sent_5 : decode cX11_sent 5 = .ok (.iconst 0, 1) := wn_at gdX11_sent_0 3 rfl
theorem dX11_sent_6 : decode cX11_sent 6 = .ok (.istore_n 3, 1) := wn_at gdX11_sent_0 4 rfl
theorem dX11_sent_7 : decode cX11_sent 7 = .ok (.iload_n 3, 1) := wn_at gdX11_sent_0 5 rfl
theorem dX11_sent_8 : decode cX11_sent 8 = .ok (.aload_n 0, 1) := wn_at gdX11_sent_0 6 rfl
theorem dX11_sent_9 : decode cX11_sent 9 = .ok (.getfield 23, 3) := wn_at gdX11_sent_0 7 rfl
theorem dX11_sent_12 : decode cX11_sent 12 = .ok (.iload_n 1, 1) := wn_at gdX11_sent_0 8 rfl
theorem dX11_sent_13 : decode cX11_sent 13 = .ok (.iaload, 1) := wn_at gdX11_sent_0 9 rfl
theorem gdX11_sent_14 : ∀ e ∈ ([(14, .if_icmp .ge 67, 3), (17, .bipush 36, 2), (19, .iload_n 1, 1), (20, .imul, 1), (21, .iconst 3, 1), (22, .iload_n 3, 1), (23, .imul, 1), (24, .iadd, 1), (25, .istore 4, 2), (27, .aload_n 0, 1)] : List (Nat × Instr × Nat)), decode cX11_sent e.1 = .ok e.2 := wn_all _ 14 (by decide +kernel)
theorem dX11_sent_14 : decode cX11_sent 14 = .ok (.if_icmp .ge 67, 3) := wn_at gdX11_sent_14 0 rfl
theorem dX11_sent_17 : decode cX11_sent 17 = .ok (.bipush 36, 2) := wn_at gdX11_sent_14 1 rfl
theorem dX11_sent_19 : decode cX11_sent 19 = .ok (.iload_n 1, 1) := wn_at gdX11_sent_14 2 rfl
theorem dX11_sent_20 : decode cX11_sent 20 = .ok (.imul, 1) := wn_at gdX11_sent_14 3 rfl
theorem dX11_sent_21 : decode cX11_sent 21 = .ok (.iconst 3, 1) := wn_at gdX11_sent_14 4 rfl
theorem dX11_sent_22 : decode cX11_sent 22 = .ok (.iload_n 3, 1) := wn_at gdX11_sent_14 5 rfl
theorem dX11_sent_23 : decode cX11_sent 23 = .ok (.imul, 1) := wn_at gdX11_sent_14 6 rfl
theorem dX11_sent_24 : decode cX11_sent 24 = .ok (.iadd, 1) := wn_at gdX11_sent_14 7 rfl
theorem dX11_sent_25 : decode cX11_sent 25 = .ok (.istore 4, 2) := wn_at gdX11_sent_14 8 rfl
theorem dX11_sent_27 : decode cX11_sent 27 = .ok (.aload_n 0, 1) := wn_at gdX11_sent_14 9 rfl
theorem gdX11_sent_28 : ∀ e ∈ ([(28, .getfield 20, 3), (31, .iload 4, 2), (33, .iconst 1, 1), (34, .iadd, 1), (35, .iaload, 1), (36, .ifCond .lt 31, 3), (39, .aload_n 0, 1), (40, .iload_n 1, 1), (41, .aload_n 0, 1), (42, .getfield 20, 3)] : List (Nat × Instr × Nat)), decode cX11_sent e.1 = .ok e.2 := wn_all _ 28 (by decide +kernel)
theorem dX11_sent_28 : decode cX11_sent 28 = .ok (.getfield 20, 3) := wn_at gdX11_sent_28 0 rfl
theorem dX11_sent_31 : decode cX11_sent 31 = .ok (.iload 4, 2) := wn_at gdX11_sent_28 1 rfl
theorem dX11_sent_33 : decode cX11_sent 33 = .ok (.iconst 1, 1) := wn_at gdX11_sent_28 2 rfl
theorem dX11_sent_34 : decode cX11_sent 34 = .ok (.iadd, 1) := wn_at gdX11_sent_28 3 rfl
theorem dX11_sent_35 : decode cX11_sent 35 = .ok (.iaload, 1) := wn_at gdX11_sent_28 4 rfl
theorem dX11_sent_36 : decode cX11_sent 36 = .ok (.ifCond .lt 31, 3) := wn_at gdX11_sent_28 5 rfl
theorem dX11_sent_39 : decode cX11_sent 39 = .ok (.aload_n 0, 1) := wn_at gdX11_sent_28 6 rfl
theorem dX11_sent_40 : decode cX11_sent 40 = .ok (.iload_n 1, 1) := wn_at gdX11_sent_28 7 rfl
theorem dX11_sent_41 : decode cX11_sent 41 = .ok (.aload_n 0, 1) := wn_at gdX11_sent_28 8 rfl
theorem dX11_sent_42 : decode cX11_sent 42 = .ok (.getfield 20, 3) := wn_at gdX11_sent_28 9 rfl
theorem gdX11_sent_45 : ∀ e ∈ ([(45, .iload 4, 2), (47, .iconst 1, 1), (48, .iadd, 1), (49, .iaload, 1), (50, .aload_n 0, 1), (51, .getfield 20, 3), (54, .iload 4, 2), (56, .iconst 2, 1), (57, .iadd, 1), (58, .iaload, 1)] : List (Nat × Instr × Nat)), decode cX11_sent e.1 = .ok e.2 := wn_all _ 45 (by decide +kernel)
theorem dX11_sent_45 : decode cX11_sent 45 = .ok (.iload 4, 2) := wn_at gdX11_sent_45 0 rfl
theorem dX11_sent_47 : decode cX11_sent 47 = .ok (.iconst 1, 1) := wn_at gdX11_sent_45 1 rfl
theorem dX11_sent_48 : decode cX11_sent 48 = .ok (.iadd, 1) := wn_at gdX11_sent_45 2 rfl
theorem dX11_sent_49 : decode cX11_sent 49 = .ok (.iaload, 1) := wn_at gdX11_sent_45 3 rfl
theorem dX11_sent_50 : decode cX11_sent 50 = .ok (.aload_n 0, 1) := wn_at gdX11_sent_45 4 rfl
theorem dX11_sent_51 : decode cX11_sent 51 = .ok (.getfield 20, 3) := wn_at gdX11_sent_45 5 rfl
theorem dX11_sent_54 : decode cX11_sent 54 = .ok (.iload 4, 2) := wn_at gdX11_sent_45 6 rfl
theorem dX11_sent_56 : decode cX11_sent 56 = .ok (.iconst 2, 1) := wn_at gdX11_sent_45 7 rfl
theorem dX11_sent_57 : decode cX11_sent 57 = .ok (.iadd, 1) := wn_at gdX11_sent_45 8 rfl
theorem dX11_sent_58 : decode cX11_sent 58 = .ok (.iaload, 1) := wn_at gdX11_sent_45 9 rfl
theorem gdX11_sent_59 : ∀ e ∈ ([(59, .invokevirtual 329, 3), (62, .lconst 1, 1), (63, .lcmp, 1), (64, .ifCond .ne 11, 3), (67, .aload_n 0, 1), (68, .getfield 20, 3), (71, .iload 4, 2), (73, .iaload, 1), (74, .ireturn, 1), (75, .iinc 3 1, 3)] : List (Nat × Instr × Nat)), decode cX11_sent e.1 = .ok e.2 := wn_all _ 59 (by decide +kernel)
theorem dX11_sent_59 : decode cX11_sent 59 = .ok (.invokevirtual 329, 3) := wn_at gdX11_sent_59 0 rfl
theorem dX11_sent_62 : decode cX11_sent 62 = .ok (.lconst 1, 1) := wn_at gdX11_sent_59 1 rfl
theorem dX11_sent_63 : decode cX11_sent 63 = .ok (.lcmp, 1) := wn_at gdX11_sent_59 2 rfl
theorem dX11_sent_64 : decode cX11_sent 64 = .ok (.ifCond .ne 11, 3) := wn_at gdX11_sent_59 3 rfl
theorem dX11_sent_67 : decode cX11_sent 67 = .ok (.aload_n 0, 1) := wn_at gdX11_sent_59 4 rfl
theorem dX11_sent_68 : decode cX11_sent 68 = .ok (.getfield 20, 3) := wn_at gdX11_sent_59 5 rfl
theorem dX11_sent_71 : decode cX11_sent 71 = .ok (.iload 4, 2) := wn_at gdX11_sent_59 6 rfl
theorem dX11_sent_73 : decode cX11_sent 73 = .ok (.iaload, 1) := wn_at gdX11_sent_59 7 rfl
theorem dX11_sent_74 : decode cX11_sent 74 = .ok (.ireturn, 1) := wn_at gdX11_sent_59 8 rfl
theorem dX11_sent_75 : decode cX11_sent 75 = .ok (.iinc 3 1, 3) := wn_at gdX11_sent_59 9 rfl
theorem gdX11_sent_78 : ∀ e ∈ ([(78, .goto (-71), 3), (81, .iconst (-1), 1), (82, .ireturn, 1)] : List (Nat × Instr × Nat)), decode cX11_sent e.1 = .ok e.2 := wn_all _ 78 (by decide +kernel)
theorem dX11_sent_78 : decode cX11_sent 78 = .ok (.goto (-71), 3) := wn_at gdX11_sent_78 0 rfl
theorem dX11_sent_81 : decode cX11_sent 81 = .ok (.iconst (-1), 1) := wn_at gdX11_sent_78 1 rfl
theorem dX11_sent_82 : decode cX11_sent 82 = .ok (.ireturn, 1) := wn_at gdX11_sent_78 2 rfl
theorem gdX11_ageAll_0 : ∀ e ∈ ([(0, .iconst 0, 1), (1, .istore_n 1, 1), (2, .iload_n 1, 1), (3, .aload_n 0, 1), (4, .getfield 45, 3), (7, .iconst 2, 1), (8, .iaload, 1), (9, .if_icmp .ge 99, 3), (12, .aload_n 0, 1), (13, .iload_n 1, 1)] : List (Nat × Instr × Nat)), decode cX11_ageAll e.1 = .ok e.2 := wn_all _ 0 (by decide +kernel)
theorem dX11_ageAll_0 : decode cX11_ageAll 0 = .ok (.iconst 0, 1) := wn_at gdX11_ageAll_0 0 rfl
theorem dX11_ageAll_1 : decode cX11_ageAll 1 = .ok (.istore_n 1, 1) := wn_at gdX11_ageAll_0 1 rfl
theorem dX11_ageAll_2 : decode cX11_ageAll 2 = .ok (.iload_n 1, 1) := wn_at gdX11_ageAll_0 2 rfl
theorem dX11_ageAll_3 : decode cX11_ageAll 3 = .ok (.aload_n 0, 1) := wn_at gdX11_ageAll_0 3 rfl
theorem dX11_ageAll_4 : decode cX11_ageAll 4 = .ok (.getfield 45, 3) := wn_at gdX11_ageAll_0 4 rfl
theorem dX11_ageAll_7 : decode cX11_ageAll 7 = .ok (.iconst 2, 1) := wn_at gdX11_ageAll_0 5 rfl
theorem dX11_ageAll_8 : decode cX11_ageAll 8 = .ok (.iaload, 1) := wn_at gdX11_ageAll_0 6 rfl
theorem dX11_ageAll_9 : decode cX11_ageAll 9 = .ok (.if_icmp .ge 99, 3) := wn_at gdX11_ageAll_0 7 rfl
theorem dX11_ageAll_12 : decode cX11_ageAll 12 = .ok (.aload_n 0, 1) := wn_at gdX11_ageAll_0 8 rfl
theorem dX11_ageAll_13 : decode cX11_ageAll 13 = .ok (.iload_n 1, 1) := wn_at gdX11_ageAll_0 9 rfl
theorem gdX11_ageAll_14 : ∀ e ∈ ([(14, .iconst 1, 1), (15, .invokevirtual 296, 3), (18, .istore_n 2, 1), (19, .iload_n 2, 1), (20, .ifCond .ge 25, 3), (23, .aload_n 0, 1), (24, .getfield 48, 3), (27, .iload_n 1, 1), (28, .dup2, 1), (29, .laload, 1)] : List (Nat × Instr × Nat)), decode cX11_ageAll e.1 = .ok e.2 := wn_all _ 14 (by decide +kernel)
theorem dX11_ageAll_14 : decode cX11_ageAll 14 = .ok (.iconst 1, 1) := wn_at gdX11_ageAll_14 0 rfl
theorem dX11_ageAll_15 : decode cX11_ageAll 15 = .ok (.invokevirtual 296, 3) := wn_at gdX11_ageAll_14 1 rfl
theorem dX11_ageAll_18 : decode cX11_ageAll 18 = .ok (.istore_n 2, 1) := wn_at gdX11_ageAll_14 2 rfl
theorem dX11_ageAll_19 : decode cX11_ageAll 19 = .ok (.iload_n 2, 1) := wn_at gdX11_ageAll_14 3 rfl
theorem dX11_ageAll_20 : decode cX11_ageAll 20 = .ok (.ifCond .ge 25, 3) := wn_at gdX11_ageAll_14 4 rfl
theorem dX11_ageAll_23 : decode cX11_ageAll 23 = .ok (.aload_n 0, 1) := wn_at gdX11_ageAll_14 5 rfl
theorem dX11_ageAll_24 : decode cX11_ageAll 24 = .ok (.getfield 48, 3) := wn_at gdX11_ageAll_14 6 rfl
theorem dX11_ageAll_27 : decode cX11_ageAll 27 = .ok (.iload_n 1, 1) := wn_at gdX11_ageAll_14 7 rfl
theorem dX11_ageAll_28 : decode cX11_ageAll 28 = .ok (.dup2, 1) := wn_at gdX11_ageAll_14 8 rfl
theorem dX11_ageAll_29 : decode cX11_ageAll 29 = .ok (.laload, 1) := wn_at gdX11_ageAll_14 9 rfl
theorem gdX11_ageAll_30 : ∀ e ∈ ([(30, .aload_n 0, 1), (31, .aload_n 0, 1), (32, .iload_n 1, 1), (33, .iconst 0, 1), (34, .invokevirtual 296, 3), (37, .invokevirtual 333, 3), (40, .ladd, 1), (41, .lastore, 1), (42, .goto 60, 3), (45, .aload_n 0, 1)] : List (Nat × Instr × Nat)), decode cX11_ageAll e.1 = .ok e.2 := wn_all _ 30 (by decide +kernel)
theorem dX11_ageAll_30 : decode cX11_ageAll 30 = .ok (.aload_n 0, 1) := wn_at gdX11_ageAll_30 0 rfl
theorem dX11_ageAll_31 : decode cX11_ageAll 31 = .ok (.aload_n 0, 1) := wn_at gdX11_ageAll_30 1 rfl
theorem dX11_ageAll_32 : decode cX11_ageAll 32 = .ok (.iload_n 1, 1) := wn_at gdX11_ageAll_30 2 rfl
theorem dX11_ageAll_33 : decode cX11_ageAll 33 = .ok (.iconst 0, 1) := wn_at gdX11_ageAll_30 3 rfl
theorem dX11_ageAll_34 : decode cX11_ageAll 34 = .ok (.invokevirtual 296, 3) := wn_at gdX11_ageAll_30 4 rfl
theorem dX11_ageAll_37 : decode cX11_ageAll 37 = .ok (.invokevirtual 333, 3) := wn_at gdX11_ageAll_30 5 rfl
theorem dX11_ageAll_40 : decode cX11_ageAll 40 = .ok (.ladd, 1) := wn_at gdX11_ageAll_30 6 rfl
theorem dX11_ageAll_41 : decode cX11_ageAll 41 = .ok (.lastore, 1) := wn_at gdX11_ageAll_30 7 rfl
theorem dX11_ageAll_42 : decode cX11_ageAll 42 = .ok (.goto 60, 3) := wn_at gdX11_ageAll_30 8 rfl
theorem dX11_ageAll_45 : decode cX11_ageAll 45 = .ok (.aload_n 0, 1) := wn_at gdX11_ageAll_30 9 rfl
theorem gdX11_ageAll_46 : ∀ e ∈ ([(46, .getfield 48, 3), (49, .iload_n 1, 1), (50, .dup2, 1), (51, .laload, 1), (52, .aload_n 0, 1), (53, .iload_n 2, 1), (54, .invokevirtual 337, 3), (57, .ladd, 1), (58, .lastore, 1), (59, .aload_n 0, 1)] : List (Nat × Instr × Nat)), decode cX11_ageAll e.1 = .ok e.2 := wn_all _ 46 (by decide +kernel)
theorem dX11_ageAll_46 : decode cX11_ageAll 46 = .ok (.getfield 48, 3) := wn_at gdX11_ageAll_46 0 rfl
theorem dX11_ageAll_49 : decode cX11_ageAll 49 = .ok (.iload_n 1, 1) := wn_at gdX11_ageAll_46 1 rfl
theorem dX11_ageAll_50 : decode cX11_ageAll 50 = .ok (.dup2, 1) := wn_at gdX11_ageAll_46 2 rfl
theorem dX11_ageAll_51 : decode cX11_ageAll 51 = .ok (.laload, 1) := wn_at gdX11_ageAll_46 3 rfl
theorem dX11_ageAll_52 : decode cX11_ageAll 52 = .ok (.aload_n 0, 1) := wn_at gdX11_ageAll_46 4 rfl
theorem dX11_ageAll_53 : decode cX11_ageAll 53 = .ok (.iload_n 2, 1) := wn_at gdX11_ageAll_46 5 rfl
theorem dX11_ageAll_54 : decode cX11_ageAll 54 = .ok (.invokevirtual 337, 3) := wn_at gdX11_ageAll_46 6 rfl
theorem dX11_ageAll_57 : decode cX11_ageAll 57 = .ok (.ladd, 1) := wn_at gdX11_ageAll_46 7 rfl
theorem dX11_ageAll_58 : decode cX11_ageAll 58 = .ok (.lastore, 1) := wn_at gdX11_ageAll_46 8 rfl
theorem dX11_ageAll_59 : decode cX11_ageAll 59 = .ok (.aload_n 0, 1) := wn_at gdX11_ageAll_46 9 rfl
theorem gdX11_ageAll_60 : ∀ e ∈ ([(60, .getfield 45, 3), (63, .bipush 90, 2), (65, .iconst 4, 1), (66, .iload_n 1, 1), (67, .imul, 1), (68, .iadd, 1), (69, .iconst 2, 1), (70, .iadd, 1), (71, .dup2, 1), (72, .iaload, 1)] : List (Nat × Instr × Nat)), decode cX11_ageAll e.1 = .ok e.2 := wn_all _ 60 (by decide +kernel)
theorem dX11_ageAll_60 : decode cX11_ageAll 60 = .ok (.getfield 45, 3) := wn_at gdX11_ageAll_60 0 rfl
theorem dX11_ageAll_63 : decode cX11_ageAll 63 = .ok (.bipush 90, 2) := wn_at gdX11_ageAll_60 1 rfl
theorem dX11_ageAll_65 : decode cX11_ageAll 65 = .ok (.iconst 4, 1) := wn_at gdX11_ageAll_60 2 rfl
theorem dX11_ageAll_66 : decode cX11_ageAll 66 = .ok (.iload_n 1, 1) := wn_at gdX11_ageAll_60 3 rfl
theorem dX11_ageAll_67 : decode cX11_ageAll 67 = .ok (.imul, 1) := wn_at gdX11_ageAll_60 4 rfl
theorem dX11_ageAll_68 : decode cX11_ageAll 68 = .ok (.iadd, 1) := wn_at gdX11_ageAll_60 5 rfl
theorem dX11_ageAll_69 : decode cX11_ageAll 69 = .ok (.iconst 2, 1) := wn_at gdX11_ageAll_60 6 rfl
theorem dX11_ageAll_70 : decode cX11_ageAll 70 = .ok (.iadd, 1) := wn_at gdX11_ageAll_60 7 rfl
theorem dX11_ageAll_71 : decode cX11_ageAll 71 = .ok (.dup2, 1) := wn_at gdX11_ageAll_60 8 rfl
theorem dX11_ageAll_72 : decode cX11_ageAll 72 = .ok (.iaload, 1) := wn_at gdX11_ageAll_60 9 rfl
theorem gdX11_ageAll_73 : ∀ e ∈ ([(73, .iconst 1, 1), (74, .iadd, 1), (75, .iastore, 1), (76, .aload_n 0, 1), (77, .iload_n 1, 1), (78, .iconst 2, 1), (79, .invokevirtual 296, 3), (82, .aload_n 0, 1), (83, .iload_n 2, 1), (84, .iconst 2, 1)] : List (Nat × Instr × Nat)), decode cX11_ageAll e.1 = .ok e.2 := wn_all _ 73 (by decide +kernel)
theorem dX11_ageAll_73 : decode cX11_ageAll 73 = .ok (.iconst 1, 1) := wn_at gdX11_ageAll_73 0 rfl
theorem dX11_ageAll_74 : decode cX11_ageAll 74 = .ok (.iadd, 1) := wn_at gdX11_ageAll_73 1 rfl
theorem dX11_ageAll_75 : decode cX11_ageAll 75 = .ok (.iastore, 1) := wn_at gdX11_ageAll_73 2 rfl
theorem dX11_ageAll_76 : decode cX11_ageAll 76 = .ok (.aload_n 0, 1) := wn_at gdX11_ageAll_73 3 rfl
theorem dX11_ageAll_77 : decode cX11_ageAll 77 = .ok (.iload_n 1, 1) := wn_at gdX11_ageAll_73 4 rfl
theorem dX11_ageAll_78 : decode cX11_ageAll 78 = .ok (.iconst 2, 1) := wn_at gdX11_ageAll_73 5 rfl
theorem dX11_ageAll_79 : decode cX11_ageAll 79 = .ok (.invokevirtual 296, 3) := wn_at gdX11_ageAll_73 6 rfl
theorem dX11_ageAll_82 : decode cX11_ageAll 82 = .ok (.aload_n 0, 1) := wn_at gdX11_ageAll_73 7 rfl
theorem dX11_ageAll_83 : decode cX11_ageAll 83 = .ok (.iload_n 2, 1) := wn_at gdX11_ageAll_73 8 rfl
theorem dX11_ageAll_84 : decode cX11_ageAll 84 = .ok (.iconst 2, 1) := wn_at gdX11_ageAll_73 9 rfl
theorem gdX11_ageAll_85 : ∀ e ∈ ([(85, .invokevirtual 283, 3), (88, .if_icmp .ne 14, 3), (91, .aload_n 0, 1), (92, .iload_n 1, 1), (93, .aload_n 0, 1), (94, .iload_n 1, 1), (95, .iconst 3, 1), (96, .invokevirtual 296, 3), (99, .invokevirtual 260, 3), (102, .iinc 1 1, 3)] : List (Nat × Instr × Nat)), decode cX11_ageAll e.1 = .ok e.2 := wn_all _ 85 (by decide +kernel)
theorem dX11_ageAll_85 : decode cX11_ageAll 85 = .ok (.invokevirtual 283, 3) := wn_at gdX11_ageAll_85 0 rfl
theorem dX11_ageAll_88 : decode cX11_ageAll 88 = .ok (.if_icmp .ne 14, 3) := wn_at gdX11_ageAll_85 1 rfl
theorem dX11_ageAll_91 : decode cX11_ageAll 91 = .ok (.aload_n 0, 1) := wn_at gdX11_ageAll_85 2 rfl
theorem dX11_ageAll_92 : decode cX11_ageAll 92 = .ok (.iload_n 1, 1) := wn_at gdX11_ageAll_85 3 rfl
theorem dX11_ageAll_93 : decode cX11_ageAll 93 = .ok (.aload_n 0, 1) := wn_at gdX11_ageAll_85 4 rfl
theorem dX11_ageAll_94 : decode cX11_ageAll 94 = .ok (.iload_n 1, 1) := wn_at gdX11_ageAll_85 5 rfl
theorem dX11_ageAll_95 : decode cX11_ageAll 95 = .ok (.iconst 3, 1) := wn_at gdX11_ageAll_85 6 rfl
theorem dX11_ageAll_96 : decode cX11_ageAll 96 = .ok (.invokevirtual 296, 3) := wn_at gdX11_ageAll_85 7 rfl
theorem dX11_ageAll_99 : decode cX11_ageAll 99 = .ok (.invokevirtual 260, 3) := wn_at gdX11_ageAll_85 8 rfl
theorem dX11_ageAll_102 : decode cX11_ageAll 102 = .ok (.iinc 1 1, 3) := wn_at gdX11_ageAll_85 9 rfl
theorem gdX11_ageAll_105 : ∀ e ∈ ([(105, .goto (-103), 3), (108, .aload_n 0, 1), (109, .getfield 45, 3), (112, .iconst 3, 1), (113, .dup2, 1), (114, .iaload, 1), (115, .iconst 1, 1), (116, .iadd, 1), (117, .iastore, 1), (118, .return_, 1)] : List (Nat × Instr × Nat)), decode cX11_ageAll e.1 = .ok e.2 := wn_all _ 105 (by decide +kernel)
theorem dX11_ageAll_105 : decode cX11_ageAll 105 = .ok (.goto (-103), 3) := wn_at gdX11_ageAll_105 0 rfl
theorem dX11_ageAll_108 : decode cX11_ageAll 108 = .ok (.aload_n 0, 1) := wn_at gdX11_ageAll_105 1 rfl
theorem dX11_ageAll_109 : decode cX11_ageAll 109 = .ok (.getfield 45, 3) := wn_at gdX11_ageAll_105 2 rfl
theorem dX11_ageAll_112 : decode cX11_ageAll 112 = .ok (.iconst 3, 1) := wn_at gdX11_ageAll_105 3 rfl
theorem dX11_ageAll_113 : decode cX11_ageAll 113 = .ok (.dup2, 1) := wn_at gdX11_ageAll_105 4 rfl
theorem dX11_ageAll_114 : decode cX11_ageAll 114 = .ok (.iaload, 1) := wn_at gdX11_ageAll_105 5 rfl
theorem dX11_ageAll_115 : decode cX11_ageAll 115 = .ok (.iconst 1, 1) := wn_at gdX11_ageAll_105 6 rfl
theorem dX11_ageAll_116 : decode cX11_ageAll 116 = .ok (.iadd, 1) := wn_at gdX11_ageAll_105 7 rfl
theorem dX11_ageAll_117 : decode cX11_ageAll 117 = .ok (.iastore, 1) := wn_at gdX11_ageAll_105 8 rfl
theorem dX11_ageAll_118 : decode cX11_ageAll 118 = .ok (.return_, 1) := wn_at gdX11_ageAll_105 9 rfl
theorem gdX11_hour_0 : ∀ e ∈ ([(0, .iconst 0, 1), (1, .istore_n 2, 1), (2, .iload_n 2, 1), (3, .aload_n 0, 1), (4, .getfield 45, 3), (7, .iconst 2, 1), (8, .iaload, 1), (9, .if_icmp .ge 70, 3), (12, .iload_n 1, 1), (13, .ifCond .lt 66, 3)] : List (Nat × Instr × Nat)), decode cX11_hour e.1 = .ok e.2 := wn_all _ 0 (by decide +kernel)
theorem dX11_hour_0 : decode cX11_hour 0 = .ok (.iconst 0, 1) := wn_at gdX11_hour_0 0 rfl
theorem dX11_hour_1 : decode cX11_hour 1 = .ok (.istore_n 2, 1) := wn_at gdX11_hour_0 1 rfl
theorem dX11_hour_2 : decode cX11_hour 2 = .ok (.iload_n 2, 1) := wn_at gdX11_hour_0 2 rfl
theorem dX11_hour_3 : decode cX11_hour 3 = .ok (.aload_n 0, 1) := wn_at gdX11_hour_0 3 rfl
theorem dX11_hour_4 : decode cX11_hour 4 = .ok (.getfield 45, 3) := wn_at gdX11_hour_0 4 rfl
theorem dX11_hour_7 : decode cX11_hour 7 = .ok (.iconst 2, 1) := wn_at gdX11_hour_0 5 rfl
theorem dX11_hour_8 : decode cX11_hour 8 = .ok (.iaload, 1) := wn_at gdX11_hour_0 6 rfl
theorem dX11_hour_9 : decode cX11_hour 9 = .ok (.if_icmp .ge 70, 3) := wn_at gdX11_hour_0 7 rfl
theorem dX11_hour_12 : decode cX11_hour 12 = .ok (.iload_n 1, 1) := wn_at gdX11_hour_0 8 rfl
theorem dX11_hour_13 : decode cX11_hour 13 = .ok (.ifCond .lt 66, 3) := wn_at gdX11_hour_0 9 rfl
theorem gdX11_hour_16 : ∀ e ∈ ([(16, .aload_n 0, 1), (17, .iload_n 2, 1), (18, .iconst 0, 1), (19, .invokevirtual 296, 3), (22, .ifCond .ge 6, 3), (25, .goto 48, 3), (28, .aload_n 0, 1), (29, .iload_n 1, 1), (30, .iload_n 2, 1), (31, .invokevirtual 340, 3)] : List (Nat × Instr × Nat)), decode cX11_hour e.1 = .ok e.2 := wn_all _ 16 (by decide +kernel)
theorem dX11_hour_16 : decode cX11_hour 16 = .ok (.aload_n 0, 1) := wn_at gdX11_hour_16 0 rfl
theorem dX11_hour_17 : decode cX11_hour 17 = .ok (.iload_n 2, 1) := wn_at gdX11_hour_16 1 rfl
theorem dX11_hour_18 : decode cX11_hour 18 = .ok (.iconst 0, 1) := wn_at gdX11_hour_16 2 rfl
theorem dX11_hour_19 : decode cX11_hour 19 = .ok (.invokevirtual 296, 3) := wn_at gdX11_hour_16 3 rfl
theorem dX11_hour_22 : decode cX11_hour 22 = .ok (.ifCond .ge 6, 3) := wn_at gdX11_hour_16 4 rfl
theorem dX11_hour_25 : decode cX11_hour 25 = .ok (.goto 48, 3) := wn_at gdX11_hour_16 5 rfl
theorem dX11_hour_28 : decode cX11_hour 28 = .ok (.aload_n 0, 1) := wn_at gdX11_hour_16 6 rfl
theorem dX11_hour_29 : decode cX11_hour 29 = .ok (.iload_n 1, 1) := wn_at gdX11_hour_16 7 rfl
theorem dX11_hour_30 : decode cX11_hour 30 = .ok (.iload_n 2, 1) := wn_at gdX11_hour_16 8 rfl
theorem dX11_hour_31 : decode cX11_hour 31 = .ok (.invokevirtual 340, 3) := wn_at gdX11_hour_16 9 rfl
theorem gdX11_hour_34 : ∀ e ∈ ([(34, .istore_n 3, 1), (35, .aload_n 0, 1), (36, .iload_n 3, 1), (37, .invokevirtual 299, 3), (40, .ifCond .eq 17, 3), (43, .aload_n 0, 1), (44, .aload_n 0, 1), (45, .iload_n 2, 1), (46, .iconst 0, 1), (47, .invokevirtual 296, 3)] : List (Nat × Instr × Nat)), decode cX11_hour e.1 = .ok e.2 := wn_all _ 34 (by decide +kernel)
theorem dX11_hour_34 : decode cX11_hour 34 = .ok (.istore_n 3, 1) := wn_at gdX11_hour_34 0 rfl
theorem dX11_hour_35 : decode cX11_hour 35 = .ok (.aload_n 0, 1) := wn_at gdX11_hour_34 1 rfl
theorem dX11_hour_36 : decode cX11_hour 36 = .ok (.iload_n 3, 1) := wn_at gdX11_hour_34 2 rfl
theorem dX11_hour_37 : decode cX11_hour 37 = .ok (.invokevirtual 299, 3) := wn_at gdX11_hour_34 3 rfl
theorem dX11_hour_40 : decode cX11_hour 40 = .ok (.ifCond .eq 17, 3) := wn_at gdX11_hour_34 4 rfl
theorem dX11_hour_43 : decode cX11_hour 43 = .ok (.aload_n 0, 1) := wn_at gdX11_hour_34 5 rfl
theorem dX11_hour_44 : decode cX11_hour 44 = .ok (.aload_n 0, 1) := wn_at gdX11_hour_34 6 rfl
theorem dX11_hour_45 : decode cX11_hour 45 = .ok (.iload_n 2, 1) := wn_at gdX11_hour_34 7 rfl
theorem dX11_hour_46 : decode cX11_hour 46 = .ok (.iconst 0, 1) := wn_at gdX11_hour_34 8 rfl
theorem dX11_hour_47 : decode cX11_hour 47 = .ok (.invokevirtual 296, 3) := wn_at gdX11_hour_34 9 rfl
theorem gdX11_hour_50 : ∀ e ∈ ([(50, .iload_n 3, 1), (51, .invokevirtual 343, 3), (54, .goto 5, 3), (57, .bipush (-2), 2), (59, .istore 4, 2), (61, .iload 4, 2), (63, .ifCond .lt 10, 3), (66, .aload_n 0, 1), (67, .iload_n 2, 1), (68, .iload 4, 2)] : List (Nat × Instr × Nat)), decode cX11_hour e.1 = .ok e.2 := wn_all _ 50 (by decide +kernel)
theorem dX11_hour_50 : decode cX11_hour 50 = .ok (.iload_n 3, 1) := wn_at gdX11_hour_50 0 rfl
theorem dX11_hour_51 : decode cX11_hour 51 = .ok (.invokevirtual 343, 3) := wn_at gdX11_hour_50 1 rfl
theorem dX11_hour_54 : decode cX11_hour 54 = .ok (.goto 5, 3) := wn_at gdX11_hour_50 2 rfl
theorem dX11_hour_57 : decode cX11_hour 57 = .ok (.bipush (-2), 2) := wn_at gdX11_hour_50 3 rfl
theorem dX11_hour_59 : decode cX11_hour 59 = .ok (.istore 4, 2) := wn_at gdX11_hour_50 4 rfl
theorem dX11_hour_61 : decode cX11_hour 61 = .ok (.iload 4, 2) := wn_at gdX11_hour_50 5 rfl
theorem dX11_hour_63 : decode cX11_hour 63 = .ok (.ifCond .lt 10, 3) := wn_at gdX11_hour_50 6 rfl
theorem dX11_hour_66 : decode cX11_hour 66 = .ok (.aload_n 0, 1) := wn_at gdX11_hour_50 7 rfl
theorem dX11_hour_67 : decode cX11_hour 67 = .ok (.iload_n 2, 1) := wn_at gdX11_hour_50 8 rfl
theorem dX11_hour_68 : decode cX11_hour 68 = .ok (.iload 4, 2) := wn_at gdX11_hour_50 9 rfl
theorem gdX11_hour_70 : ∀ e ∈ ([(70, .invokevirtual 323, 3), (73, .iinc 2 1, 3), (76, .goto (-74), 3), (79, .aload_n 0, 1), (80, .invokevirtual 346, 3), (83, .return_, 1)] : List (Nat × Instr × Nat)), decode cX11_hour e.1 = .ok e.2 := wn_all _ 70 (by decide +kernel)
theorem dX11_hour_70 : decode cX11_hour 70 = .ok (.invokevirtual 323, 3) := wn_at gdX11_hour_70 0 rfl
theorem dX11_hour_73 : decode cX11_hour 73 = .ok (.iinc 2 1, 3) := wn_at gdX11_hour_70 1 rfl
theorem dX11_hour_76 : decode cX11_hour 76 = .ok (.goto (-74), 3) := wn_at gdX11_hour_70 2 rfl
theorem dX11_hour_79 : decode cX11_hour 79 = .ok (.aload_n 0, 1) := wn_at gdX11_hour_70 3 rfl
theorem dX11_hour_80 : decode cX11_hour 80 = .ok (.invokevirtual 346, 3) := wn_at gdX11_hour_70 4 rfl
theorem dX11_hour_83 : decode cX11_hour 83 = .ok (.return_, 1) := wn_at gdX11_hour_70 5 rfl
theorem gdX11_tick_0 : ∀ e ∈ ([(0, .iload_n 1, 1), (1, .iconst (-1), 1), (2, .if_icmp .eq 11, 3), (5, .aload_n 0, 1), (6, .iload_n 1, 1), (7, .invokevirtual 349, 3), (10, .ifCond .eq 29, 3), (13, .iload_n 2, 1), (14, .i2l, 1), (15, .lconst 1, 1)] : List (Nat × Instr × Nat)), decode cX11_tick e.1 = .ok e.2 := wn_all _ 0 (by decide +kernel)
theorem dX11_tick_0 : decode cX11_tick 0 = .ok (.iload_n 1, 1) := wn_at gdX11_tick_0 0 rfl
theorem dX11_tick_1 : decode cX11_tick 1 = .ok (.iconst (-1), 1) := wn_at gdX11_tick_0 1 rfl
theorem dX11_tick_2 : decode cX11_tick 2 = .ok (.if_icmp .eq 11, 3) := wn_at gdX11_tick_0 2 rfl
theorem dX11_tick_5 : decode cX11_tick 5 = .ok (.aload_n 0, 1) := wn_at gdX11_tick_0 3 rfl
theorem dX11_tick_6 : decode cX11_tick 6 = .ok (.iload_n 1, 1) := wn_at gdX11_tick_0 4 rfl
theorem dX11_tick_7 : decode cX11_tick 7 = .ok (.invokevirtual 349, 3) := wn_at gdX11_tick_0 5 rfl
theorem dX11_tick_10 : decode cX11_tick 10 = .ok (.ifCond .eq 29, 3) := wn_at gdX11_tick_0 6 rfl
theorem dX11_tick_13 : decode cX11_tick 13 = .ok (.iload_n 2, 1) := wn_at gdX11_tick_0 7 rfl
theorem dX11_tick_14 : decode cX11_tick 14 = .ok (.i2l, 1) := wn_at gdX11_tick_0 8 rfl
theorem dX11_tick_15 : decode cX11_tick 15 = .ok (.lconst 1, 1) := wn_at gdX11_tick_0 9 rfl
theorem gdX11_tick_16 : ∀ e ∈ ([(16, .ldc2_w 352, 3), (19, .invokestatic 131, 3), (22, .ifCond .eq 17, 3), (25, .aload_n 0, 1), (26, .getfield 45, 3), (29, .iconst 3, 1), (30, .iaload, 1), (31, .iload_n 2, 1), (32, .iadd, 1), (33, .sipush 9999, 3)] : List (Nat × Instr × Nat)), decode cX11_tick e.1 = .ok e.2 := wn_all _ 16 (by decide +kernel)
theorem dX11_tick_16 : decode cX11_tick 16 = .ok (.ldc2_w 352, 3) := wn_at gdX11_tick_16 0 rfl
theorem dX11_tick_19 : decode cX11_tick 19 = .ok (.invokestatic 131, 3) := wn_at gdX11_tick_16 1 rfl
theorem dX11_tick_22 : decode cX11_tick 22 = .ok (.ifCond .eq 17, 3) := wn_at gdX11_tick_16 2 rfl
theorem dX11_tick_25 : decode cX11_tick 25 = .ok (.aload_n 0, 1) := wn_at gdX11_tick_16 3 rfl
theorem dX11_tick_26 : decode cX11_tick 26 = .ok (.getfield 45, 3) := wn_at gdX11_tick_16 4 rfl
theorem dX11_tick_29 : decode cX11_tick 29 = .ok (.iconst 3, 1) := wn_at gdX11_tick_16 5 rfl
theorem dX11_tick_30 : decode cX11_tick 30 = .ok (.iaload, 1) := wn_at gdX11_tick_16 6 rfl
theorem dX11_tick_31 : decode cX11_tick 31 = .ok (.iload_n 2, 1) := wn_at gdX11_tick_16 7 rfl
theorem dX11_tick_32 : decode cX11_tick 32 = .ok (.iadd, 1) := wn_at gdX11_tick_16 8 rfl
theorem dX11_tick_33 : decode cX11_tick 33 = .ok (.sipush 9999, 3) := wn_at gdX11_tick_16 9 rfl
theorem gdX11_tick_36 : ∀ e ∈ ([(36, .if_icmp .le 5, 3), (39, .iconst (-1), 1), (40, .ireturn, 1), (41, .iconst 0, 1), (42, .istore_n 3, 1), (43, .iload_n 3, 1), (44, .iload_n 2, 1), (45, .if_icmp .ge 14, 3), (48, .aload_n 0, 1), (49, .iload_n 1, 1)] : List (Nat × Instr × Nat)), decode cX11_tick e.1 = .ok e.2 := wn_all _ 36 (by decide +kernel)
theorem dX11_tick_36 : decode cX11_tick 36 = .ok (.if_icmp .le 5, 3) := wn_at gdX11_tick_36 0 rfl
theorem dX11_tick_39 : decode cX11_tick 39 = .ok (.iconst (-1), 1) := wn_at gdX11_tick_36 1 rfl
theorem dX11_tick_40 : decode cX11_tick 40 = .ok (.ireturn, 1) := wn_at gdX11_tick_36 2 rfl
theorem dX11_tick_41 : decode cX11_tick 41 = .ok (.iconst 0, 1) := wn_at gdX11_tick_36 3 rfl
theorem dX11_tick_42 : decode cX11_tick 42 = .ok (.istore_n 3, 1) := wn_at gdX11_tick_36 4 rfl
theorem dX11_tick_43 : decode cX11_tick 43 = .ok (.iload_n 3, 1) := wn_at gdX11_tick_36 5 rfl
theorem dX11_tick_44 : decode cX11_tick 44 = .ok (.iload_n 2, 1) := wn_at gdX11_tick_36 6 rfl
theorem dX11_tick_45 : decode cX11_tick 45 = .ok (.if_icmp .ge 14, 3) := wn_at gdX11_tick_36 7 rfl
theorem dX11_tick_48 : decode cX11_tick 48 = .ok (.aload_n 0, 1) := wn_at gdX11_tick_36 8 rfl
theorem dX11_tick_49 : decode cX11_tick 49 = .ok (.iload_n 1, 1) := wn_at gdX11_tick_36 9 rfl
theorem gdX11_tick_50 : ∀ e ∈ ([(50, .invokevirtual 354, 3), (53, .iinc 3 1, 3), (56, .goto (-13), 3), (59, .aload_n 0, 1), (60, .getfield 45, 3), (63, .iconst 3, 1), (64, .iaload, 1), (65, .ireturn, 1)] : List (Nat × Instr × Nat)), decode cX11_tick e.1 = .ok e.2 := wn_all _ 50 (by decide +kernel)
theorem dX11_tick_50 : decode cX11_tick 50 = .ok (.invokevirtual 354, 3) := wn_at gdX11_tick_50 0 rfl
theorem dX11_tick_53 : decode cX11_tick 53 = .ok (.iinc 3 1, 3) := wn_at gdX11_tick_50 1 rfl
theorem dX11_tick_56 : decode cX11_tick 56 = .ok (.goto (-13), 3) := wn_at gdX11_tick_50 2 rfl
theorem dX11_tick_59 : decode cX11_tick 59 = .ok (.aload_n 0, 1) := wn_at gdX11_tick_50 3 rfl
theorem dX11_tick_60 : decode cX11_tick 60 = .ok (.getfield 45, 3) := wn_at gdX11_tick_50 4 rfl
theorem dX11_tick_63 : decode cX11_tick 63 = .ok (.iconst 3, 1) := wn_at gdX11_tick_50 5 rfl
theorem dX11_tick_64 : decode cX11_tick 64 = .ok (.iaload, 1) := wn_at gdX11_tick_50 6 rfl
theorem dX11_tick_65 : decode cX11_tick 65 = .ok (.ireturn, 1) := wn_at gdX11_tick_50 7 rfl
theorem gdX11_keeps_0 : ∀ e ∈ ([(0, .iconst 0, 1), (1, .istore_n 1, 1), (2, .iload_n 1, 1), (3, .sipush 158, 3), (6, .if_icmp .ge 21, 3), (9, .aload_n 0, 1), (10, .getfield 51, 3), (13, .iload_n 1, 1), (14, .aload_n 0, 1), (15, .getfield 45, 3)] : List (Nat × Instr × Nat)), decode cX11_keeps e.1 = .ok e.2 := wn_all _ 0 (by decide +kernel)
theorem dX11_keeps_0 : decode cX11_keeps 0 = .ok (.iconst 0, 1) := wn_at gdX11_keeps_0 0 rfl
theorem dX11_keeps_1 : decode cX11_keeps 1 = .ok (.istore_n 1, 1) := wn_at gdX11_keeps_0 1 rfl
theorem dX11_keeps_2 : decode cX11_keeps 2 = .ok (.iload_n 1, 1) := wn_at gdX11_keeps_0 2 rfl
theorem dX11_keeps_3 : decode cX11_keeps 3 = .ok (.sipush 158, 3) := wn_at gdX11_keeps_0 3 rfl
theorem dX11_keeps_6 : decode cX11_keeps 6 = .ok (.if_icmp .ge 21, 3) := wn_at gdX11_keeps_0 4 rfl
theorem dX11_keeps_9 : decode cX11_keeps 9 = .ok (.aload_n 0, 1) := wn_at gdX11_keeps_0 5 rfl
theorem dX11_keeps_10 : decode cX11_keeps 10 = .ok (.getfield 51, 3) := wn_at gdX11_keeps_0 6 rfl
theorem dX11_keeps_13 : decode cX11_keeps 13 = .ok (.iload_n 1, 1) := wn_at gdX11_keeps_0 7 rfl
theorem dX11_keeps_14 : decode cX11_keeps 14 = .ok (.aload_n 0, 1) := wn_at gdX11_keeps_0 8 rfl
theorem dX11_keeps_15 : decode cX11_keeps 15 = .ok (.getfield 45, 3) := wn_at gdX11_keeps_0 9 rfl
theorem gdX11_keeps_18 : ∀ e ∈ ([(18, .iload_n 1, 1), (19, .iaload, 1), (20, .iastore, 1), (21, .iinc 1 1, 3), (24, .goto (-22), 3), (27, .iconst 0, 1), (28, .istore_n 1, 1), (29, .iload_n 1, 1), (30, .bipush 8, 2), (32, .if_icmp .ge 21, 3)] : List (Nat × Instr × Nat)), decode cX11_keeps e.1 = .ok e.2 := wn_all _ 18 (by decide +kernel)
theorem dX11_keeps_18 : decode cX11_keeps 18 = .ok (.iload_n 1, 1) := wn_at gdX11_keeps_18 0 rfl
theorem dX11_keeps_19 : decode cX11_keeps 19 = .ok (.iaload, 1) := wn_at gdX11_keeps_18 1 rfl
theorem dX11_keeps_20 : decode cX11_keeps 20 = .ok (.iastore, 1) := wn_at gdX11_keeps_18 2 rfl
theorem dX11_keeps_21 : decode cX11_keeps 21 = .ok (.iinc 1 1, 3) := wn_at gdX11_keeps_18 3 rfl
theorem dX11_keeps_24 : decode cX11_keeps 24 = .ok (.goto (-22), 3) := wn_at gdX11_keeps_18 4 rfl
theorem dX11_keeps_27 : decode cX11_keeps 27 = .ok (.iconst 0, 1) := wn_at gdX11_keeps_18 5 rfl
theorem dX11_keeps_28 : decode cX11_keeps 28 = .ok (.istore_n 1, 1) := wn_at gdX11_keeps_18 6 rfl
theorem dX11_keeps_29 : decode cX11_keeps 29 = .ok (.iload_n 1, 1) := wn_at gdX11_keeps_18 7 rfl
theorem dX11_keeps_30 : decode cX11_keeps 30 = .ok (.bipush 8, 2) := wn_at gdX11_keeps_18 8 rfl
theorem dX11_keeps_32 : decode cX11_keeps 32 = .ok (.if_icmp .ge 21, 3) := wn_at gdX11_keeps_18 9 rfl
theorem gdX11_keeps_35 : ∀ e ∈ ([(35, .aload_n 0, 1), (36, .getfield 54, 3), (39, .iload_n 1, 1), (40, .aload_n 0, 1), (41, .getfield 48, 3), (44, .iload_n 1, 1), (45, .laload, 1), (46, .lastore, 1), (47, .iinc 1 1, 3), (50, .goto (-21), 3)] : List (Nat × Instr × Nat)), decode cX11_keeps e.1 = .ok e.2 := wn_all _ 35 (by decide +kernel)
theorem dX11_keeps_35 : decode cX11_keeps 35 = .ok (.aload_n 0, 1) := wn_at gdX11_keeps_35 0 rfl
theorem dX11_keeps_36 : decode cX11_keeps 36 = .ok (.getfield 54, 3) := wn_at gdX11_keeps_35 1 rfl
theorem dX11_keeps_39 : decode cX11_keeps 39 = .ok (.iload_n 1, 1) := wn_at gdX11_keeps_35 2 rfl
theorem dX11_keeps_40 : decode cX11_keeps 40 = .ok (.aload_n 0, 1) := wn_at gdX11_keeps_35 3 rfl
theorem dX11_keeps_41 : decode cX11_keeps 41 = .ok (.getfield 48, 3) := wn_at gdX11_keeps_35 4 rfl
theorem dX11_keeps_44 : decode cX11_keeps 44 = .ok (.iload_n 1, 1) := wn_at gdX11_keeps_35 5 rfl
theorem dX11_keeps_45 : decode cX11_keeps 45 = .ok (.laload, 1) := wn_at gdX11_keeps_35 6 rfl
theorem dX11_keeps_46 : decode cX11_keeps 46 = .ok (.lastore, 1) := wn_at gdX11_keeps_35 7 rfl
theorem dX11_keeps_47 : decode cX11_keeps 47 = .ok (.iinc 1 1, 3) := wn_at gdX11_keeps_35 8 rfl
theorem dX11_keeps_50 : decode cX11_keeps 50 = .ok (.goto (-21), 3) := wn_at gdX11_keeps_35 9 rfl
theorem gdX11_keeps_53 : ∀ e ∈ ([(53, .return_, 1)] : List (Nat × Instr × Nat)), decode cX11_keeps e.1 = .ok e.2 := wn_all _ 53 (by decide +kernel)
theorem dX11_keeps_53 : decode cX11_keeps 53 = .ok (.return_, 1) := wn_at gdX11_keeps_53 0 rfl
theorem gdX11_putsBack_0 : ∀ e ∈ ([(0, .iconst 0, 1), (1, .istore_n 1, 1), (2, .iload_n 1, 1), (3, .sipush 158, 3), (6, .if_icmp .ge 21, 3), (9, .aload_n 0, 1), (10, .getfield 45, 3), (13, .iload_n 1, 1), (14, .aload_n 0, 1), (15, .getfield 51, 3)] : List (Nat × Instr × Nat)), decode cX11_putsBack e.1 = .ok e.2 := wn_all _ 0 (by decide +kernel)
theorem dX11_putsBack_0 : decode cX11_putsBack 0 = .ok (.iconst 0, 1) := wn_at gdX11_putsBack_0 0 rfl
theorem dX11_putsBack_1 : decode cX11_putsBack 1 = .ok (.istore_n 1, 1) := wn_at gdX11_putsBack_0 1 rfl
theorem dX11_putsBack_2 : decode cX11_putsBack 2 = .ok (.iload_n 1, 1) := wn_at gdX11_putsBack_0 2 rfl
theorem dX11_putsBack_3 : decode cX11_putsBack 3 = .ok (.sipush 158, 3) := wn_at gdX11_putsBack_0 3 rfl
theorem dX11_putsBack_6 : decode cX11_putsBack 6 = .ok (.if_icmp .ge 21, 3) := wn_at gdX11_putsBack_0 4 rfl
theorem dX11_putsBack_9 : decode cX11_putsBack 9 = .ok (.aload_n 0, 1) := wn_at gdX11_putsBack_0 5 rfl
theorem dX11_putsBack_10 : decode cX11_putsBack 10 = .ok (.getfield 45, 3) := wn_at gdX11_putsBack_0 6 rfl
theorem dX11_putsBack_13 : decode cX11_putsBack 13 = .ok (.iload_n 1, 1) := wn_at gdX11_putsBack_0 7 rfl
theorem dX11_putsBack_14 : decode cX11_putsBack 14 = .ok (.aload_n 0, 1) := wn_at gdX11_putsBack_0 8 rfl
theorem dX11_putsBack_15 : decode cX11_putsBack 15 = .ok (.getfield 51, 3) := wn_at gdX11_putsBack_0 9 rfl
theorem gdX11_putsBack_18 : ∀ e ∈ ([(18, .iload_n 1, 1), (19, .iaload, 1), (20, .iastore, 1), (21, .iinc 1 1, 3), (24, .goto (-22), 3), (27, .iconst 0, 1), (28, .istore_n 1, 1), (29, .iload_n 1, 1), (30, .bipush 8, 2), (32, .if_icmp .ge 21, 3)] : List (Nat × Instr × Nat)), decode cX11_putsBack e.1 = .ok e.2 := wn_all _ 18 (by decide +kernel)
theorem dX11_putsBack_18 : decode cX11_putsBack 18 = .ok (.iload_n 1, 1) := wn_at gdX11_putsBack_18 0 rfl
theorem dX11_putsBack_19 : decode cX11_putsBack 19 = .ok (.iaload, 1) := wn_at gdX11_putsBack_18 1 rfl
theorem dX11_putsBack_20 : decode cX11_putsBack 20 = .ok (.iastore, 1) := wn_at gdX11_putsBack_18 2 rfl
theorem dX11_putsBack_21 : decode cX11_putsBack 21 = .ok (.iinc 1 1, 3) := wn_at gdX11_putsBack_18 3 rfl
theorem dX11_putsBack_24 : decode cX11_putsBack 24 = .ok (.goto (-22), 3) := wn_at gdX11_putsBack_18 4 rfl
theorem dX11_putsBack_27 : decode cX11_putsBack 27 = .ok (.iconst 0, 1) := wn_at gdX11_putsBack_18 5 rfl
theorem dX11_putsBack_28 : decode cX11_putsBack 28 = .ok (.istore_n 1, 1) := wn_at gdX11_putsBack_18 6 rfl
theorem dX11_putsBack_29 : decode cX11_putsBack 29 = .ok (.iload_n 1, 1) := wn_at gdX11_putsBack_18 7 rfl
theorem dX11_putsBack_30 : decode cX11_putsBack 30 = .ok (.bipush 8, 2) := wn_at gdX11_putsBack_18 8 rfl
theorem dX11_putsBack_32 : decode cX11_putsBack 32 = .ok (.if_icmp .ge 21, 3) := wn_at gdX11_putsBack_18 9 rfl
theorem gdX11_putsBack_35 : ∀ e ∈ ([(35, .aload_n 0, 1), (36, .getfield 48, 3), (39, .iload_n 1, 1), (40, .aload_n 0, 1), (41, .getfield 54, 3), (44, .iload_n 1, 1), (45, .laload, 1), (46, .lastore, 1), (47, .iinc 1 1, 3), (50, .goto (-21), 3)] : List (Nat × Instr × Nat)), decode cX11_putsBack e.1 = .ok e.2 := wn_all _ 35 (by decide +kernel)
theorem dX11_putsBack_35 : decode cX11_putsBack 35 = .ok (.aload_n 0, 1) := wn_at gdX11_putsBack_35 0 rfl
theorem dX11_putsBack_36 : decode cX11_putsBack 36 = .ok (.getfield 48, 3) := wn_at gdX11_putsBack_35 1 rfl
theorem dX11_putsBack_39 : decode cX11_putsBack 39 = .ok (.iload_n 1, 1) := wn_at gdX11_putsBack_35 2 rfl
theorem dX11_putsBack_40 : decode cX11_putsBack 40 = .ok (.aload_n 0, 1) := wn_at gdX11_putsBack_35 3 rfl
theorem dX11_putsBack_41 : decode cX11_putsBack 41 = .ok (.getfield 54, 3) := wn_at gdX11_putsBack_35 4 rfl
theorem dX11_putsBack_44 : decode cX11_putsBack 44 = .ok (.iload_n 1, 1) := wn_at gdX11_putsBack_35 5 rfl
theorem dX11_putsBack_45 : decode cX11_putsBack 45 = .ok (.laload, 1) := wn_at gdX11_putsBack_35 6 rfl
theorem dX11_putsBack_46 : decode cX11_putsBack 46 = .ok (.lastore, 1) := wn_at gdX11_putsBack_35 7 rfl
theorem dX11_putsBack_47 : decode cX11_putsBack 47 = .ok (.iinc 1 1, 3) := wn_at gdX11_putsBack_35 8 rfl
theorem dX11_putsBack_50 : decode cX11_putsBack 50 = .ok (.goto (-21), 3) := wn_at gdX11_putsBack_35 9 rfl
theorem gdX11_putsBack_53 : ∀ e ∈ ([(53, .return_, 1)] : List (Nat × Instr × Nat)), decode cX11_putsBack e.1 = .ok e.2 := wn_all _ 53 (by decide +kernel)
theorem dX11_putsBack_53 : decode cX11_putsBack 53 = .ok (.return_, 1) := wn_at gdX11_putsBack_53 0 rfl
theorem gdX11_ahead_0 : ∀ e ∈ ([(0, .aload_n 0, 1), (1, .iload_n 1, 1), (2, .invokevirtual 349, 3), (5, .ifCond .eq 36, 3), (8, .iload_n 2, 1), (9, .i2l, 1), (10, .lconst 0, 1), (11, .ldc2_w 352, 3), (14, .invokestatic 131, 3), (17, .ifCond .eq 24, 3)] : List (Nat × Instr × Nat)), decode cX11_ahead e.1 = .ok e.2 := wn_all _ 0 (by decide +kernel)
theorem dX11_ahead_0 : decode cX11_ahead 0 = .ok (.aload_n 0, 1) := wn_at gdX11_ahead_0 0 rfl
theorem dX11_ahead_1 : decode cX11_ahead 1 = .ok (.iload_n 1, 1) := wn_at gdX11_ahead_0 1 rfl
theorem dX11_ahead_2 : decode cX11_ahead 2 = .ok (.invokevirtual 349, 3) := wn_at gdX11_ahead_0 2 rfl
theorem dX11_ahead_5 : decode cX11_ahead 5 = .ok (.ifCond .eq 36, 3) := wn_at gdX11_ahead_0 3 rfl
theorem dX11_ahead_8 : decode cX11_ahead 8 = .ok (.iload_n 2, 1) := wn_at gdX11_ahead_0 4 rfl
theorem dX11_ahead_9 : decode cX11_ahead 9 = .ok (.i2l, 1) := wn_at gdX11_ahead_0 5 rfl
theorem dX11_ahead_10 : decode cX11_ahead 10 = .ok (.lconst 0, 1) := wn_at gdX11_ahead_0 6 rfl
theorem dX11_ahead_11 : decode cX11_ahead 11 = .ok (.ldc2_w 352, 3) := wn_at gdX11_ahead_0 7 rfl
theorem dX11_ahead_14 : decode cX11_ahead 14 = .ok (.invokestatic 131, 3) := wn_at gdX11_ahead_0 8 rfl
theorem dX11_ahead_17 : decode cX11_ahead 17 = .ok (.ifCond .eq 24, 3) := wn_at gdX11_ahead_0 9 rfl
theorem gdX11_ahead_20 : ∀ e ∈ ([(20, .iload 4, 2), (22, .i2l, 1), (23, .lconst 0, 1), (24, .ldc2_w 319, 3), (27, .invokestatic 131, 3), (30, .ifCond .eq 11, 3), (33, .aload_n 0, 1), (34, .iload_n 3, 1), (35, .invokevirtual 316, 3), (38, .ifCond .ne 7, 3)] : List (Nat × Instr × Nat)), decode cX11_ahead e.1 = .ok e.2 := wn_all _ 20 (by decide +kernel)
theorem dX11_ahead_20 : decode cX11_ahead 20 = .ok (.iload 4, 2) := wn_at gdX11_ahead_20 0 rfl
theorem dX11_ahead_22 : decode cX11_ahead 22 = .ok (.i2l, 1) := wn_at gdX11_ahead_20 1 rfl
theorem dX11_ahead_23 : decode cX11_ahead 23 = .ok (.lconst 0, 1) := wn_at gdX11_ahead_20 2 rfl
theorem dX11_ahead_24 : decode cX11_ahead 24 = .ok (.ldc2_w 319, 3) := wn_at gdX11_ahead_20 3 rfl
theorem dX11_ahead_27 : decode cX11_ahead 27 = .ok (.invokestatic 131, 3) := wn_at gdX11_ahead_20 4 rfl
theorem dX11_ahead_30 : decode cX11_ahead 30 = .ok (.ifCond .eq 11, 3) := wn_at gdX11_ahead_20 5 rfl
theorem dX11_ahead_33 : decode cX11_ahead 33 = .ok (.aload_n 0, 1) := wn_at gdX11_ahead_20 6 rfl
theorem dX11_ahead_34 : decode cX11_ahead 34 = .ok (.iload_n 3, 1) := wn_at gdX11_ahead_20 7 rfl
theorem dX11_ahead_35 : decode cX11_ahead 35 = .ok (.invokevirtual 316, 3) := wn_at gdX11_ahead_20 8 rfl
theorem dX11_ahead_38 : decode cX11_ahead 38 = .ok (.ifCond .ne 7, 3) := wn_at gdX11_ahead_20 9 rfl
theorem gdX11_ahead_41 : ∀ e ∈ ([(41, .ldc2_w 321, 3), (44, .lreturn, 1), (45, .aload_n 0, 1), (46, .invokevirtual 357, 3), (49, .iconst 0, 1), (50, .istore 5, 2), (52, .iload 5, 2), (54, .iload_n 2, 1), (55, .if_icmp .ge 14, 3), (58, .aload_n 0, 1)] : List (Nat × Instr × Nat)), decode cX11_ahead e.1 = .ok e.2 := wn_all _ 41 (by decide +kernel)
theorem dX11_ahead_41 : decode cX11_ahead 41 = .ok (.ldc2_w 321, 3) := wn_at gdX11_ahead_41 0 rfl
theorem dX11_ahead_44 : decode cX11_ahead 44 = .ok (.lreturn, 1) := wn_at gdX11_ahead_41 1 rfl
theorem dX11_ahead_45 : decode cX11_ahead 45 = .ok (.aload_n 0, 1) := wn_at gdX11_ahead_41 2 rfl
theorem dX11_ahead_46 : decode cX11_ahead 46 = .ok (.invokevirtual 357, 3) := wn_at gdX11_ahead_41 3 rfl
theorem dX11_ahead_49 : decode cX11_ahead 49 = .ok (.iconst 0, 1) := wn_at gdX11_ahead_41 4 rfl
theorem dX11_ahead_50 : decode cX11_ahead 50 = .ok (.istore 5, 2) := wn_at gdX11_ahead_41 5 rfl
theorem dX11_ahead_52 : decode cX11_ahead 52 = .ok (.iload 5, 2) := wn_at gdX11_ahead_41 6 rfl
theorem dX11_ahead_54 : decode cX11_ahead 54 = .ok (.iload_n 2, 1) := wn_at gdX11_ahead_41 7 rfl
theorem dX11_ahead_55 : decode cX11_ahead 55 = .ok (.if_icmp .ge 14, 3) := wn_at gdX11_ahead_41 8 rfl
theorem dX11_ahead_58 : decode cX11_ahead 58 = .ok (.aload_n 0, 1) := wn_at gdX11_ahead_41 9 rfl
theorem gdX11_ahead_59 : ∀ e ∈ ([(59, .iload_n 1, 1), (60, .invokevirtual 354, 3), (63, .iinc 5 1, 3), (66, .goto (-14), 3), (69, .lconst 0, 1), (70, .lstore 5, 2), (72, .iload 4, 2), (74, .iconst 3, 1), (75, .if_icmp .ne 61, 3), (78, .iconst 0, 1)] : List (Nat × Instr × Nat)), decode cX11_ahead e.1 = .ok e.2 := wn_all _ 59 (by decide +kernel)
theorem dX11_ahead_59 : decode cX11_ahead 59 = .ok (.iload_n 1, 1) := wn_at gdX11_ahead_59 0 rfl
theorem dX11_ahead_60 : decode cX11_ahead 60 = .ok (.invokevirtual 354, 3) := wn_at gdX11_ahead_59 1 rfl
theorem dX11_ahead_63 : decode cX11_ahead 63 = .ok (.iinc 5 1, 3) := wn_at gdX11_ahead_59 2 rfl
theorem dX11_ahead_66 : decode cX11_ahead 66 = .ok (.goto (-14), 3) := wn_at gdX11_ahead_59 3 rfl
theorem dX11_ahead_69 : decode cX11_ahead 69 = .ok (.lconst 0, 1) := wn_at gdX11_ahead_59 4 rfl
theorem dX11_ahead_70 : decode cX11_ahead 70 = .ok (.lstore 5, 2) := wn_at gdX11_ahead_59 5 rfl
theorem dX11_ahead_72 : decode cX11_ahead 72 = .ok (.iload 4, 2) := wn_at gdX11_ahead_59 6 rfl
theorem dX11_ahead_74 : decode cX11_ahead 74 = .ok (.iconst 3, 1) := wn_at gdX11_ahead_59 7 rfl
theorem dX11_ahead_75 : decode cX11_ahead 75 = .ok (.if_icmp .ne 61, 3) := wn_at gdX11_ahead_59 8 rfl
theorem dX11_ahead_78 : decode cX11_ahead 78 = .ok (.iconst 0, 1) := wn_at gdX11_ahead_59 9 rfl
theorem gdX11_ahead_79 : ∀ e ∈ ([(79, .istore 7, 2), (81, .iload 7, 2), (83, .aload_n 0, 1), (84, .getfield 45, 3), (87, .iconst 2, 1), (88, .iaload, 1), (89, .if_icmp .ge 44, 3), (92, .lload 5, 2), (94, .aload_n 0, 1), (95, .iload 7, 2)] : List (Nat × Instr × Nat)), decode cX11_ahead e.1 = .ok e.2 := wn_all _ 79 (by decide +kernel)
theorem dX11_ahead_79 : decode cX11_ahead 79 = .ok (.istore 7, 2) := wn_at gdX11_ahead_79 0 rfl
theorem dX11_ahead_81 : decode cX11_ahead 81 = .ok (.iload 7, 2) := wn_at gdX11_ahead_79 1 rfl
theorem dX11_ahead_83 : decode cX11_ahead 83 = .ok (.aload_n 0, 1) := wn_at gdX11_ahead_79 2 rfl
theorem dX11_ahead_84 : decode cX11_ahead 84 = .ok (.getfield 45, 3) := wn_at gdX11_ahead_79 3 rfl
theorem dX11_ahead_87 : decode cX11_ahead 87 = .ok (.iconst 2, 1) := wn_at gdX11_ahead_79 4 rfl
theorem dX11_ahead_88 : decode cX11_ahead 88 = .ok (.iaload, 1) := wn_at gdX11_ahead_79 5 rfl
theorem dX11_ahead_89 : decode cX11_ahead 89 = .ok (.if_icmp .ge 44, 3) := wn_at gdX11_ahead_79 6 rfl
theorem dX11_ahead_92 : decode cX11_ahead 92 = .ok (.lload 5, 2) := wn_at gdX11_ahead_79 7 rfl
theorem dX11_ahead_94 : decode cX11_ahead 94 = .ok (.aload_n 0, 1) := wn_at gdX11_ahead_79 8 rfl
theorem dX11_ahead_95 : decode cX11_ahead 95 = .ok (.iload 7, 2) := wn_at gdX11_ahead_79 9 rfl
theorem gdX11_ahead_97 : ∀ e ∈ ([(97, .iconst 0, 1), (98, .invokevirtual 296, 3), (101, .ifCond .lt 22, 3), (104, .aload_n 0, 1), (105, .aload_n 0, 1), (106, .iload 7, 2), (108, .iconst 0, 1), (109, .invokevirtual 296, 3), (112, .invokevirtual 304, 3), (115, .iconst 1, 1)] : List (Nat × Instr × Nat)), decode cX11_ahead e.1 = .ok e.2 := wn_all _ 97 (by decide +kernel)
theorem dX11_ahead_97 : decode cX11_ahead 97 = .ok (.iconst 0, 1) := wn_at gdX11_ahead_97 0 rfl
theorem dX11_ahead_98 : decode cX11_ahead 98 = .ok (.invokevirtual 296, 3) := wn_at gdX11_ahead_97 1 rfl
theorem dX11_ahead_101 : decode cX11_ahead 101 = .ok (.ifCond .lt 22, 3) := wn_at gdX11_ahead_97 2 rfl
theorem dX11_ahead_104 : decode cX11_ahead 104 = .ok (.aload_n 0, 1) := wn_at gdX11_ahead_97 3 rfl
theorem dX11_ahead_105 : decode cX11_ahead 105 = .ok (.aload_n 0, 1) := wn_at gdX11_ahead_97 4 rfl
theorem dX11_ahead_106 : decode cX11_ahead 106 = .ok (.iload 7, 2) := wn_at gdX11_ahead_97 5 rfl
theorem dX11_ahead_108 : decode cX11_ahead 108 = .ok (.iconst 0, 1) := wn_at gdX11_ahead_97 6 rfl
theorem dX11_ahead_109 : decode cX11_ahead 109 = .ok (.invokevirtual 296, 3) := wn_at gdX11_ahead_97 7 rfl
theorem dX11_ahead_112 : decode cX11_ahead 112 = .ok (.invokevirtual 304, 3) := wn_at gdX11_ahead_97 8 rfl
theorem dX11_ahead_115 : decode cX11_ahead 115 = .ok (.iconst 1, 1) := wn_at gdX11_ahead_97 9 rfl
theorem gdX11_ahead_116 : ∀ e ∈ ([(116, .if_icmp .le 7, 3), (119, .lconst 1, 1), (120, .goto 4, 3), (123, .lconst 0, 1), (124, .ladd, 1), (125, .lstore 5, 2), (127, .iinc 7 1, 3), (130, .goto (-49), 3), (133, .goto 51, 3), (136, .iload 4, 2)] : List (Nat × Instr × Nat)), decode cX11_ahead e.1 = .ok e.2 := wn_all _ 116 (by decide +kernel)
theorem dX11_ahead_116 : decode cX11_ahead 116 = .ok (.if_icmp .le 7, 3) := wn_at gdX11_ahead_116 0 rfl
theorem dX11_ahead_119 : decode cX11_ahead 119 = .ok (.lconst 1, 1) := wn_at gdX11_ahead_116 1 rfl
theorem dX11_ahead_120 : decode cX11_ahead 120 = .ok (.goto 4, 3) := wn_at gdX11_ahead_116 2 rfl
theorem dX11_ahead_123 : decode cX11_ahead 123 = .ok (.lconst 0, 1) := wn_at gdX11_ahead_116 3 rfl
theorem dX11_ahead_124 : decode cX11_ahead 124 = .ok (.ladd, 1) := wn_at gdX11_ahead_116 4 rfl
theorem dX11_ahead_125 : decode cX11_ahead 125 = .ok (.lstore 5, 2) := wn_at gdX11_ahead_116 5 rfl
theorem dX11_ahead_127 : decode cX11_ahead 127 = .ok (.iinc 7 1, 3) := wn_at gdX11_ahead_116 6 rfl
theorem dX11_ahead_130 : decode cX11_ahead 130 = .ok (.goto (-49), 3) := wn_at gdX11_ahead_116 7 rfl
theorem dX11_ahead_133 : decode cX11_ahead 133 = .ok (.goto 51, 3) := wn_at gdX11_ahead_116 8 rfl
theorem dX11_ahead_136 : decode cX11_ahead 136 = .ok (.iload 4, 2) := wn_at gdX11_ahead_116 9 rfl
theorem gdX11_ahead_138 : ∀ e ∈ ([(138, .ifCond .ne 28, 3), (141, .aload_n 0, 1), (142, .iload_n 3, 1), (143, .iconst 0, 1), (144, .invokevirtual 296, 3), (147, .ifCond .ge 9, 3), (150, .ldc2_w 360, 3), (153, .goto 29, 3), (156, .aload_n 0, 1), (157, .iload_n 3, 1)] : List (Nat × Instr × Nat)), decode cX11_ahead e.1 = .ok e.2 := wn_all _ 138 (by decide +kernel)
theorem dX11_ahead_138 : decode cX11_ahead 138 = .ok (.ifCond .ne 28, 3) := wn_at gdX11_ahead_138 0 rfl
theorem dX11_ahead_141 : decode cX11_ahead 141 = .ok (.aload_n 0, 1) := wn_at gdX11_ahead_138 1 rfl
theorem dX11_ahead_142 : decode cX11_ahead 142 = .ok (.iload_n 3, 1) := wn_at gdX11_ahead_138 2 rfl
theorem dX11_ahead_143 : decode cX11_ahead 143 = .ok (.iconst 0, 1) := wn_at gdX11_ahead_138 3 rfl
theorem dX11_ahead_144 : decode cX11_ahead 144 = .ok (.invokevirtual 296, 3) := wn_at gdX11_ahead_138 4 rfl
theorem dX11_ahead_147 : decode cX11_ahead 147 = .ok (.ifCond .ge 9, 3) := wn_at gdX11_ahead_138 5 rfl
theorem dX11_ahead_150 : decode cX11_ahead 150 = .ok (.ldc2_w 360, 3) := wn_at gdX11_ahead_138 6 rfl
theorem dX11_ahead_153 : decode cX11_ahead 153 = .ok (.goto 29, 3) := wn_at gdX11_ahead_138 7 rfl
theorem dX11_ahead_156 : decode cX11_ahead 156 = .ok (.aload_n 0, 1) := wn_at gdX11_ahead_138 8 rfl
theorem dX11_ahead_157 : decode cX11_ahead 157 = .ok (.iload_n 3, 1) := wn_at gdX11_ahead_138 9 rfl
theorem gdX11_ahead_158 : ∀ e ∈ ([(158, .iconst 0, 1), (159, .invokevirtual 296, 3), (162, .i2l, 1), (163, .goto 19, 3), (166, .aload_n 0, 1), (167, .getfield 48, 3), (170, .iload_n 3, 1), (171, .laload, 1), (172, .ldc2_w 281, 3), (175, .iload 4, 2)] : List (Nat × Instr × Nat)), decode cX11_ahead e.1 = .ok e.2 := wn_all _ 158 (by decide +kernel)
theorem dX11_ahead_158 : decode cX11_ahead 158 = .ok (.iconst 0, 1) := wn_at gdX11_ahead_158 0 rfl
theorem dX11_ahead_159 : decode cX11_ahead 159 = .ok (.invokevirtual 296, 3) := wn_at gdX11_ahead_158 1 rfl
theorem dX11_ahead_162 : decode cX11_ahead 162 = .ok (.i2l, 1) := wn_at gdX11_ahead_158 2 rfl
theorem dX11_ahead_163 : decode cX11_ahead 163 = .ok (.goto 19, 3) := wn_at gdX11_ahead_158 3 rfl
theorem dX11_ahead_166 : decode cX11_ahead 166 = .ok (.aload_n 0, 1) := wn_at gdX11_ahead_158 4 rfl
theorem dX11_ahead_167 : decode cX11_ahead 167 = .ok (.getfield 48, 3) := wn_at gdX11_ahead_158 5 rfl
theorem dX11_ahead_170 : decode cX11_ahead 170 = .ok (.iload_n 3, 1) := wn_at gdX11_ahead_158 6 rfl
theorem dX11_ahead_171 : decode cX11_ahead 171 = .ok (.laload, 1) := wn_at gdX11_ahead_158 7 rfl
theorem dX11_ahead_172 : decode cX11_ahead 172 = .ok (.ldc2_w 281, 3) := wn_at gdX11_ahead_158 8 rfl
theorem dX11_ahead_175 : decode cX11_ahead 175 = .ok (.iload 4, 2) := wn_at gdX11_ahead_158 9 rfl
theorem gdX11_ahead_177 : ∀ e ∈ ([(177, .iconst 1, 1), (178, .isub, 1), (179, .invokestatic 307, 3), (182, .lstore 5, 2), (184, .aload_n 0, 1), (185, .invokevirtual 362, 3), (188, .lload 5, 2), (190, .lreturn, 1)] : List (Nat × Instr × Nat)), decode cX11_ahead e.1 = .ok e.2 := wn_all _ 177 (by decide +kernel)
theorem dX11_ahead_177 : decode cX11_ahead 177 = .ok (.iconst 1, 1) := wn_at gdX11_ahead_177 0 rfl
theorem dX11_ahead_178 : decode cX11_ahead 178 = .ok (.isub, 1) := wn_at gdX11_ahead_177 1 rfl
theorem dX11_ahead_179 : decode cX11_ahead 179 = .ok (.invokestatic 307, 3) := wn_at gdX11_ahead_177 2 rfl
theorem dX11_ahead_182 : decode cX11_ahead 182 = .ok (.lstore 5, 2) := wn_at gdX11_ahead_177 3 rfl
theorem dX11_ahead_184 : decode cX11_ahead 184 = .ok (.aload_n 0, 1) := wn_at gdX11_ahead_177 4 rfl
theorem dX11_ahead_185 : decode cX11_ahead 185 = .ok (.invokevirtual 362, 3) := wn_at gdX11_ahead_177 5 rfl
theorem dX11_ahead_188 : decode cX11_ahead 188 = .ok (.lload 5, 2) := wn_at gdX11_ahead_177 6 rfl
theorem dX11_ahead_190 : decode cX11_ahead 190 = .ok (.lreturn, 1) := wn_at gdX11_ahead_177 7 rfl
theorem gdX11_far_0 : ∀ e ∈ ([(0, .aload_n 0, 1), (1, .iload_n 1, 1), (2, .invokevirtual 299, 3), (5, .ifCond .eq 11, 3), (8, .aload_n 0, 1), (9, .iload_n 2, 1), (10, .invokevirtual 299, 3), (13, .ifCond .ne 5, 3), (16, .iconst (-1), 1), (17, .ireturn, 1)] : List (Nat × Instr × Nat)), decode cX11_far e.1 = .ok e.2 := wn_all _ 0 (by decide +kernel)
theorem dX11_far_0 : decode cX11_far 0 = .ok (.aload_n 0, 1) := wn_at gdX11_far_0 0 rfl
theorem dX11_far_1 : decode cX11_far 1 = .ok (.iload_n 1, 1) := wn_at gdX11_far_0 1 rfl
theorem dX11_far_2 : decode cX11_far 2 = .ok (.invokevirtual 299, 3) := wn_at gdX11_far_0 2 rfl
theorem dX11_far_5 : decode cX11_far 5 = .ok (.ifCond .eq 11, 3) := wn_at gdX11_far_0 3 rfl
theorem dX11_far_8 : decode cX11_far 8 = .ok (.aload_n 0, 1) := wn_at gdX11_far_0 4 rfl
theorem dX11_far_9 : decode cX11_far 9 = .ok (.iload_n 2, 1) := wn_at gdX11_far_0 5 rfl
theorem dX11_far_10 : decode cX11_far 10 = .ok (.invokevirtual 299, 3) := wn_at gdX11_far_0 6 rfl
theorem dX11_far_13 : decode cX11_far 13 = .ok (.ifCond .ne 5, 3) := wn_at gdX11_far_0 7 rfl
theorem dX11_far_16 : decode cX11_far 16 = .ok (.iconst (-1), 1) := wn_at gdX11_far_0 8 rfl
theorem dX11_far_17 : decode cX11_far 17 = .ok (.ireturn, 1) := wn_at gdX11_far_0 9 rfl
theorem gdX11_far_18 : ∀ e ∈ ([(18, .aload_n 0, 1), (19, .iload_n 1, 1), (20, .iload_n 2, 1), (21, .invokevirtual 289, 3), (24, .ldc2_w 287, 3), (27, .lcmp, 1), (28, .ifCond .lt 8, 3), (31, .bipush (-2), 2), (33, .goto 10, 3), (36, .aload_n 0, 1)] : List (Nat × Instr × Nat)), decode cX11_far e.1 = .ok e.2 := wn_all _ 18 (by decide +kernel)
theorem dX11_far_18 : decode cX11_far 18 = .ok (.aload_n 0, 1) := wn_at gdX11_far_18 0 rfl
theorem dX11_far_19 : decode cX11_far 19 = .ok (.iload_n 1, 1) := wn_at gdX11_far_18 1 rfl
theorem dX11_far_20 : decode cX11_far 20 = .ok (.iload_n 2, 1) := wn_at gdX11_far_18 2 rfl
theorem dX11_far_21 : decode cX11_far 21 = .ok (.invokevirtual 289, 3) := wn_at gdX11_far_18 3 rfl
theorem dX11_far_24 : decode cX11_far 24 = .ok (.ldc2_w 287, 3) := wn_at gdX11_far_18 4 rfl
theorem dX11_far_27 : decode cX11_far 27 = .ok (.lcmp, 1) := wn_at gdX11_far_18 5 rfl
theorem dX11_far_28 : decode cX11_far 28 = .ok (.ifCond .lt 8, 3) := wn_at gdX11_far_18 6 rfl
theorem dX11_far_31 : decode cX11_far 31 = .ok (.bipush (-2), 2) := wn_at gdX11_far_18 7 rfl
theorem dX11_far_33 : decode cX11_far 33 = .ok (.goto 10, 3) := wn_at gdX11_far_18 8 rfl
theorem dX11_far_36 : decode cX11_far 36 = .ok (.aload_n 0, 1) := wn_at gdX11_far_18 9 rfl
theorem gdX11_far_37 : ∀ e ∈ ([(37, .iload_n 1, 1), (38, .iload_n 2, 1), (39, .invokevirtual 289, 3), (42, .l2i, 1), (43, .ireturn, 1)] : List (Nat × Instr × Nat)), decode cX11_far e.1 = .ok e.2 := wn_all _ 37 (by decide +kernel)
theorem dX11_far_37 : decode cX11_far 37 = .ok (.iload_n 1, 1) := wn_at gdX11_far_37 0 rfl
theorem dX11_far_38 : decode cX11_far 38 = .ok (.iload_n 2, 1) := wn_at gdX11_far_37 1 rfl
theorem dX11_far_39 : decode cX11_far 39 = .ok (.invokevirtual 289, 3) := wn_at gdX11_far_37 2 rfl
theorem dX11_far_42 : decode cX11_far 42 = .ok (.l2i, 1) := wn_at gdX11_far_37 3 rfl
theorem dX11_far_43 : decode cX11_far 43 = .ok (.ireturn, 1) := wn_at gdX11_far_37 4 rfl
theorem gdX11_next_0 : ∀ e ∈ ([(0, .aload_n 0, 1), (1, .iload_n 1, 1), (2, .invokevirtual 299, 3), (5, .ifCond .eq 20, 3), (8, .aload_n 0, 1), (9, .iload_n 2, 1), (10, .invokevirtual 299, 3), (13, .ifCond .eq 12, 3), (16, .aload_n 0, 1), (17, .iload_n 1, 1)] : List (Nat × Instr × Nat)), decode cX11_next e.1 = .ok e.2 := wn_all _ 0 (by decide +kernel)
theorem dX11_next_0 : decode cX11_next 0 = .ok (.aload_n 0, 1) := wn_at gdX11_next_0 0 rfl
theorem dX11_next_1 : decode cX11_next 1 = .ok (.iload_n 1, 1) := wn_at gdX11_next_0 1 rfl
theorem dX11_next_2 : decode cX11_next 2 = .ok (.invokevirtual 299, 3) := wn_at gdX11_next_0 2 rfl
theorem dX11_next_5 : decode cX11_next 5 = .ok (.ifCond .eq 20, 3) := wn_at gdX11_next_0 3 rfl
theorem dX11_next_8 : decode cX11_next 8 = .ok (.aload_n 0, 1) := wn_at gdX11_next_0 4 rfl
theorem dX11_next_9 : decode cX11_next 9 = .ok (.iload_n 2, 1) := wn_at gdX11_next_0 5 rfl
theorem dX11_next_10 : decode cX11_next 10 = .ok (.invokevirtual 299, 3) := wn_at gdX11_next_0 6 rfl
theorem dX11_next_13 : decode cX11_next 13 = .ok (.ifCond .eq 12, 3) := wn_at gdX11_next_0 7 rfl
theorem dX11_next_16 : decode cX11_next 16 = .ok (.aload_n 0, 1) := wn_at gdX11_next_0 8 rfl
theorem dX11_next_17 : decode cX11_next 17 = .ok (.iload_n 1, 1) := wn_at gdX11_next_0 9 rfl
theorem gdX11_next_18 : ∀ e ∈ ([(18, .iload_n 2, 1), (19, .invokevirtual 343, 3), (22, .goto 4, 3), (25, .iconst (-1), 1), (26, .ireturn, 1)] : List (Nat × Instr × Nat)), decode cX11_next e.1 = .ok e.2 := wn_all _ 18 (by decide +kernel)
theorem dX11_next_18 : decode cX11_next 18 = .ok (.iload_n 2, 1) := wn_at gdX11_next_18 0 rfl
theorem dX11_next_19 : decode cX11_next 19 = .ok (.invokevirtual 343, 3) := wn_at gdX11_next_18 1 rfl
theorem dX11_next_22 : decode cX11_next 22 = .ok (.goto 4, 3) := wn_at gdX11_next_18 2 rfl
theorem dX11_next_25 : decode cX11_next 25 = .ok (.iconst (-1), 1) := wn_at gdX11_next_18 3 rfl
theorem dX11_next_26 : decode cX11_next 26 = .ok (.ireturn, 1) := wn_at gdX11_next_18 4 rfl
theorem gdX11_clock_0 : ∀ e ∈ ([(0, .aload_n 0, 1), (1, .iload_n 1, 1), (2, .invokevirtual 299, 3), (5, .ifCond .eq 25, 3), (8, .iload_n 2, 1), (9, .i2l, 1), (10, .lconst 0, 1), (11, .ldc2_w 365, 3), (14, .invokestatic 131, 3), (17, .ifCond .eq 13, 3)] : List (Nat × Instr × Nat)), decode cX11_clock e.1 = .ok e.2 := wn_all _ 0 (by decide +kernel)
theorem dX11_clock_0 : decode cX11_clock 0 = .ok (.aload_n 0, 1) := wn_at gdX11_clock_0 0 rfl
theorem dX11_clock_1 : decode cX11_clock 1 = .ok (.iload_n 1, 1) := wn_at gdX11_clock_0 1 rfl
theorem dX11_clock_2 : decode cX11_clock 2 = .ok (.invokevirtual 299, 3) := wn_at gdX11_clock_0 2 rfl
theorem dX11_clock_5 : decode cX11_clock 5 = .ok (.ifCond .eq 25, 3) := wn_at gdX11_clock_0 3 rfl
theorem dX11_clock_8 : decode cX11_clock 8 = .ok (.iload_n 2, 1) := wn_at gdX11_clock_0 4 rfl
theorem dX11_clock_9 : decode cX11_clock 9 = .ok (.i2l, 1) := wn_at gdX11_clock_0 5 rfl
theorem dX11_clock_10 : decode cX11_clock 10 = .ok (.lconst 0, 1) := wn_at gdX11_clock_0 6 rfl
theorem dX11_clock_11 : decode cX11_clock 11 = .ok (.ldc2_w 365, 3) := wn_at gdX11_clock_0 7 rfl
theorem dX11_clock_14 : decode cX11_clock 14 = .ok (.invokestatic 131, 3) := wn_at gdX11_clock_0 8 rfl
theorem dX11_clock_17 : decode cX11_clock 17 = .ok (.ifCond .eq 13, 3) := wn_at gdX11_clock_0 9 rfl
theorem gdX11_clock_20 : ∀ e ∈ ([(20, .iload_n 3, 1), (21, .i2l, 1), (22, .lconst 0, 1), (23, .lconst 1, 1), (24, .invokestatic 131, 3), (27, .ifCond .ne 7, 3), (30, .ldc2_w 321, 3), (33, .lreturn, 1), (34, .iload_n 2, 1), (35, .i2l, 1)] : List (Nat × Instr × Nat)), decode cX11_clock e.1 = .ok e.2 := wn_all _ 20 (by decide +kernel)
theorem dX11_clock_20 : decode cX11_clock 20 = .ok (.iload_n 3, 1) := wn_at gdX11_clock_20 0 rfl
theorem dX11_clock_21 : decode cX11_clock 21 = .ok (.i2l, 1) := wn_at gdX11_clock_20 1 rfl
theorem dX11_clock_22 : decode cX11_clock 22 = .ok (.lconst 0, 1) := wn_at gdX11_clock_20 2 rfl
theorem dX11_clock_23 : decode cX11_clock 23 = .ok (.lconst 1, 1) := wn_at gdX11_clock_20 3 rfl
theorem dX11_clock_24 : decode cX11_clock 24 = .ok (.invokestatic 131, 3) := wn_at gdX11_clock_20 4 rfl
theorem dX11_clock_27 : decode cX11_clock 27 = .ok (.ifCond .ne 7, 3) := wn_at gdX11_clock_20 5 rfl
theorem dX11_clock_30 : decode cX11_clock 30 = .ok (.ldc2_w 321, 3) := wn_at gdX11_clock_20 6 rfl
theorem dX11_clock_33 : decode cX11_clock 33 = .ok (.lreturn, 1) := wn_at gdX11_clock_20 7 rfl
theorem dX11_clock_34 : decode cX11_clock 34 = .ok (.iload_n 2, 1) := wn_at gdX11_clock_20 8 rfl
theorem dX11_clock_35 : decode cX11_clock 35 = .ok (.i2l, 1) := wn_at gdX11_clock_20 9 rfl
theorem gdX11_clock_36 : ∀ e ∈ ([(36, .aload_n 0, 1), (37, .getfield 45, 3), (40, .bipush 10, 2), (42, .iconst 2, 1), (43, .iload_n 1, 1), (44, .imul, 1), (45, .iadd, 1), (46, .iaload, 1), (47, .i2l, 1), (48, .lmul, 1)] : List (Nat × Instr × Nat)), decode cX11_clock e.1 = .ok e.2 := wn_all _ 36 (by decide +kernel)
theorem dX11_clock_36 : decode cX11_clock 36 = .ok (.aload_n 0, 1) := wn_at gdX11_clock_36 0 rfl
theorem dX11_clock_37 : decode cX11_clock 37 = .ok (.getfield 45, 3) := wn_at gdX11_clock_36 1 rfl
theorem dX11_clock_40 : decode cX11_clock 40 = .ok (.bipush 10, 2) := wn_at gdX11_clock_36 2 rfl
theorem dX11_clock_42 : decode cX11_clock 42 = .ok (.iconst 2, 1) := wn_at gdX11_clock_36 3 rfl
theorem dX11_clock_43 : decode cX11_clock 43 = .ok (.iload_n 1, 1) := wn_at gdX11_clock_36 4 rfl
theorem dX11_clock_44 : decode cX11_clock 44 = .ok (.imul, 1) := wn_at gdX11_clock_36 5 rfl
theorem dX11_clock_45 : decode cX11_clock 45 = .ok (.iadd, 1) := wn_at gdX11_clock_36 6 rfl
theorem dX11_clock_46 : decode cX11_clock 46 = .ok (.iaload, 1) := wn_at gdX11_clock_36 7 rfl
theorem dX11_clock_47 : decode cX11_clock 47 = .ok (.i2l, 1) := wn_at gdX11_clock_36 8 rfl
theorem dX11_clock_48 : decode cX11_clock 48 = .ok (.lmul, 1) := wn_at gdX11_clock_36 9 rfl
theorem gdX11_clock_49 : ∀ e ∈ ([(49, .aload_n 0, 1), (50, .getfield 45, 3), (53, .bipush 10, 2), (55, .iconst 2, 1), (56, .iload_n 1, 1), (57, .imul, 1), (58, .iadd, 1), (59, .iconst 1, 1), (60, .iadd, 1), (61, .iaload, 1)] : List (Nat × Instr × Nat)), decode cX11_clock e.1 = .ok e.2 := wn_all _ 49 (by decide +kernel)
theorem dX11_clock_49 : decode cX11_clock 49 = .ok (.aload_n 0, 1) := wn_at gdX11_clock_49 0 rfl
theorem dX11_clock_50 : decode cX11_clock 50 = .ok (.getfield 45, 3) := wn_at gdX11_clock_49 1 rfl
theorem dX11_clock_53 : decode cX11_clock 53 = .ok (.bipush 10, 2) := wn_at gdX11_clock_49 2 rfl
theorem dX11_clock_55 : decode cX11_clock 55 = .ok (.iconst 2, 1) := wn_at gdX11_clock_49 3 rfl
theorem dX11_clock_56 : decode cX11_clock 56 = .ok (.iload_n 1, 1) := wn_at gdX11_clock_49 4 rfl
theorem dX11_clock_57 : decode cX11_clock 57 = .ok (.imul, 1) := wn_at gdX11_clock_49 5 rfl
theorem dX11_clock_58 : decode cX11_clock 58 = .ok (.iadd, 1) := wn_at gdX11_clock_49 6 rfl
theorem dX11_clock_59 : decode cX11_clock 59 = .ok (.iconst 1, 1) := wn_at gdX11_clock_49 7 rfl
theorem dX11_clock_60 : decode cX11_clock 60 = .ok (.iadd, 1) := wn_at gdX11_clock_49 8 rfl
theorem dX11_clock_61 : decode cX11_clock 61 = .ok (.iaload, 1) := wn_at gdX11_clock_49 9 rfl
theorem gdX11_clock_62 : ∀ e ∈ ([(62, .i2l, 1), (63, .iload_n 3, 1), (64, .invokestatic 307, 3), (67, .lreturn, 1)] : List (Nat × Instr × Nat)), decode cX11_clock e.1 = .ok e.2 := wn_all _ 62 (by decide +kernel)
theorem dX11_clock_62 : decode cX11_clock 62 = .ok (.i2l, 1) := wn_at gdX11_clock_62 0 rfl
theorem dX11_clock_63 : decode cX11_clock 63 = .ok (.iload_n 3, 1) := wn_at gdX11_clock_62 1 rfl
theorem dX11_clock_64 : decode cX11_clock 64 = .ok (.invokestatic 307, 3) := wn_at gdX11_clock_62 2 rfl
theorem dX11_clock_67 : decode cX11_clock 67 = .ok (.lreturn, 1) := wn_at gdX11_clock_62 3 rfl
theorem gdX11_noons_0 : ∀ e ∈ ([(0, .aload_n 0, 1), (1, .iload_n 1, 1), (2, .invokevirtual 299, 3), (5, .ifCond .eq 21, 3), (8, .aload_n 0, 1), (9, .iload_n 2, 1), (10, .invokevirtual 299, 3), (13, .ifCond .eq 13, 3), (16, .iload_n 3, 1), (17, .i2l, 1)] : List (Nat × Instr × Nat)), decode cX11_noons e.1 = .ok e.2 := wn_all _ 0 (by decide +kernel)
theorem dX11_noons_0 : decode cX11_noons 0 = .ok (.aload_n 0, 1) := wn_at gdX11_noons_0 0 rfl
theorem dX11_noons_1 : decode cX11_noons 1 = .ok (.iload_n 1, 1) := wn_at gdX11_noons_0 1 rfl
theorem dX11_noons_2 : decode cX11_noons 2 = .ok (.invokevirtual 299, 3) := wn_at gdX11_noons_0 2 rfl
theorem dX11_noons_5 : decode cX11_noons 5 = .ok (.ifCond .eq 21, 3) := wn_at gdX11_noons_0 3 rfl
theorem dX11_noons_8 : decode cX11_noons 8 = .ok (.aload_n 0, 1) := wn_at gdX11_noons_0 4 rfl
theorem dX11_noons_9 : decode cX11_noons 9 = .ok (.iload_n 2, 1) := wn_at gdX11_noons_0 5 rfl
theorem dX11_noons_10 : decode cX11_noons 10 = .ok (.invokevirtual 299, 3) := wn_at gdX11_noons_0 6 rfl
theorem dX11_noons_13 : decode cX11_noons 13 = .ok (.ifCond .eq 13, 3) := wn_at gdX11_noons_0 7 rfl
theorem dX11_noons_16 : decode cX11_noons 16 = .ok (.iload_n 3, 1) := wn_at gdX11_noons_0 8 rfl
theorem dX11_noons_17 : decode cX11_noons 17 = .ok (.i2l, 1) := wn_at gdX11_noons_0 9 rfl
theorem gdX11_noons_18 : ∀ e ∈ ([(18, .lconst 0, 1), (19, .lconst 1, 1), (20, .invokestatic 131, 3), (23, .ifCond .ne 7, 3), (26, .ldc2_w 321, 3), (29, .lreturn, 1), (30, .aload_n 0, 1), (31, .getfield 45, 3), (34, .bipush 10, 2), (36, .iconst 2, 1)] : List (Nat × Instr × Nat)), decode cX11_noons e.1 = .ok e.2 := wn_all _ 18 (by decide +kernel)
theorem dX11_noons_18 : decode cX11_noons 18 = .ok (.lconst 0, 1) := wn_at gdX11_noons_18 0 rfl
theorem dX11_noons_19 : decode cX11_noons 19 = .ok (.lconst 1, 1) := wn_at gdX11_noons_18 1 rfl
theorem dX11_noons_20 : decode cX11_noons 20 = .ok (.invokestatic 131, 3) := wn_at gdX11_noons_18 2 rfl
theorem dX11_noons_23 : decode cX11_noons 23 = .ok (.ifCond .ne 7, 3) := wn_at gdX11_noons_18 3 rfl
theorem dX11_noons_26 : decode cX11_noons 26 = .ok (.ldc2_w 321, 3) := wn_at gdX11_noons_18 4 rfl
theorem dX11_noons_29 : decode cX11_noons 29 = .ok (.lreturn, 1) := wn_at gdX11_noons_18 5 rfl
theorem dX11_noons_30 : decode cX11_noons 30 = .ok (.aload_n 0, 1) := wn_at gdX11_noons_18 6 rfl
theorem dX11_noons_31 : decode cX11_noons 31 = .ok (.getfield 45, 3) := wn_at gdX11_noons_18 7 rfl
theorem dX11_noons_34 : decode cX11_noons 34 = .ok (.bipush 10, 2) := wn_at gdX11_noons_18 8 rfl
theorem dX11_noons_36 : decode cX11_noons 36 = .ok (.iconst 2, 1) := wn_at gdX11_noons_18 9 rfl
theorem gdX11_noons_37 : ∀ e ∈ ([(37, .iload_n 1, 1), (38, .imul, 1), (39, .iadd, 1), (40, .iaload, 1), (41, .i2l, 1), (42, .lstore 4, 2), (44, .aload_n 0, 1), (45, .getfield 45, 3), (48, .bipush 10, 2), (50, .iconst 2, 1)] : List (Nat × Instr × Nat)), decode cX11_noons e.1 = .ok e.2 := wn_all _ 37 (by decide +kernel)
theorem dX11_noons_37 : decode cX11_noons 37 = .ok (.iload_n 1, 1) := wn_at gdX11_noons_37 0 rfl
theorem dX11_noons_38 : decode cX11_noons 38 = .ok (.imul, 1) := wn_at gdX11_noons_37 1 rfl
theorem dX11_noons_39 : decode cX11_noons 39 = .ok (.iadd, 1) := wn_at gdX11_noons_37 2 rfl
theorem dX11_noons_40 : decode cX11_noons 40 = .ok (.iaload, 1) := wn_at gdX11_noons_37 3 rfl
theorem dX11_noons_41 : decode cX11_noons 41 = .ok (.i2l, 1) := wn_at gdX11_noons_37 4 rfl
theorem dX11_noons_42 : decode cX11_noons 42 = .ok (.lstore 4, 2) := wn_at gdX11_noons_37 5 rfl
theorem dX11_noons_44 : decode cX11_noons 44 = .ok (.aload_n 0, 1) := wn_at gdX11_noons_37 6 rfl
theorem dX11_noons_45 : decode cX11_noons 45 = .ok (.getfield 45, 3) := wn_at gdX11_noons_37 7 rfl
theorem dX11_noons_48 : decode cX11_noons 48 = .ok (.bipush 10, 2) := wn_at gdX11_noons_37 8 rfl
theorem dX11_noons_50 : decode cX11_noons 50 = .ok (.iconst 2, 1) := wn_at gdX11_noons_37 9 rfl
theorem gdX11_noons_51 : ∀ e ∈ ([(51, .iload_n 1, 1), (52, .imul, 1), (53, .iadd, 1), (54, .iconst 1, 1), (55, .iadd, 1), (56, .iaload, 1), (57, .i2l, 1), (58, .lstore 6, 2), (60, .lload 6, 2), (62, .aload_n 0, 1)] : List (Nat × Instr × Nat)), decode cX11_noons e.1 = .ok e.2 := wn_all _ 51 (by decide +kernel)
theorem dX11_noons_51 : decode cX11_noons 51 = .ok (.iload_n 1, 1) := wn_at gdX11_noons_51 0 rfl
theorem dX11_noons_52 : decode cX11_noons 52 = .ok (.imul, 1) := wn_at gdX11_noons_51 1 rfl
theorem dX11_noons_53 : decode cX11_noons 53 = .ok (.iadd, 1) := wn_at gdX11_noons_51 2 rfl
theorem dX11_noons_54 : decode cX11_noons 54 = .ok (.iconst 1, 1) := wn_at gdX11_noons_51 3 rfl
theorem dX11_noons_55 : decode cX11_noons 55 = .ok (.iadd, 1) := wn_at gdX11_noons_51 4 rfl
theorem dX11_noons_56 : decode cX11_noons 56 = .ok (.iaload, 1) := wn_at gdX11_noons_51 5 rfl
theorem dX11_noons_57 : decode cX11_noons 57 = .ok (.i2l, 1) := wn_at gdX11_noons_51 6 rfl
theorem dX11_noons_58 : decode cX11_noons 58 = .ok (.lstore 6, 2) := wn_at gdX11_noons_51 7 rfl
theorem dX11_noons_60 : decode cX11_noons 60 = .ok (.lload 6, 2) := wn_at gdX11_noons_51 8 rfl
theorem dX11_noons_62 : decode cX11_noons 62 = .ok (.aload_n 0, 1) := wn_at gdX11_noons_51 9 rfl
theorem gdX11_noons_63 : ∀ e ∈ ([(63, .getfield 45, 3), (66, .bipush 10, 2), (68, .iconst 2, 1), (69, .iload_n 2, 1), (70, .imul, 1), (71, .iadd, 1), (72, .iaload, 1), (73, .i2l, 1), (74, .lmul, 1), (75, .lstore 8, 2)] : List (Nat × Instr × Nat)), decode cX11_noons e.1 = .ok e.2 := wn_all _ 63 (by decide +kernel)
theorem dX11_noons_63 : decode cX11_noons 63 = .ok (.getfield 45, 3) := wn_at gdX11_noons_63 0 rfl
theorem dX11_noons_66 : decode cX11_noons 66 = .ok (.bipush 10, 2) := wn_at gdX11_noons_63 1 rfl
theorem dX11_noons_68 : decode cX11_noons 68 = .ok (.iconst 2, 1) := wn_at gdX11_noons_63 2 rfl
theorem dX11_noons_69 : decode cX11_noons 69 = .ok (.iload_n 2, 1) := wn_at gdX11_noons_63 3 rfl
theorem dX11_noons_70 : decode cX11_noons 70 = .ok (.imul, 1) := wn_at gdX11_noons_63 4 rfl
theorem dX11_noons_71 : decode cX11_noons 71 = .ok (.iadd, 1) := wn_at gdX11_noons_63 5 rfl
theorem dX11_noons_72 : decode cX11_noons 72 = .ok (.iaload, 1) := wn_at gdX11_noons_63 6 rfl
theorem dX11_noons_73 : decode cX11_noons 73 = .ok (.i2l, 1) := wn_at gdX11_noons_63 7 rfl
theorem dX11_noons_74 : decode cX11_noons 74 = .ok (.lmul, 1) := wn_at gdX11_noons_63 8 rfl
theorem dX11_noons_75 : decode cX11_noons 75 = .ok (.lstore 8, 2) := wn_at gdX11_noons_63 9 rfl
theorem gdX11_noons_77 : ∀ e ∈ ([(77, .aload_n 0, 1), (78, .getfield 45, 3), (81, .bipush 10, 2), (83, .iconst 2, 1), (84, .iload_n 2, 1), (85, .imul, 1), (86, .iadd, 1), (87, .iconst 1, 1), (88, .iadd, 1), (89, .iaload, 1)] : List (Nat × Instr × Nat)), decode cX11_noons e.1 = .ok e.2 := wn_all _ 77 (by decide +kernel)
theorem dX11_noons_77 : decode cX11_noons 77 = .ok (.aload_n 0, 1) := wn_at gdX11_noons_77 0 rfl
theorem dX11_noons_78 : decode cX11_noons 78 = .ok (.getfield 45, 3) := wn_at gdX11_noons_77 1 rfl
theorem dX11_noons_81 : decode cX11_noons 81 = .ok (.bipush 10, 2) := wn_at gdX11_noons_77 2 rfl
theorem dX11_noons_83 : decode cX11_noons 83 = .ok (.iconst 2, 1) := wn_at gdX11_noons_77 3 rfl
theorem dX11_noons_84 : decode cX11_noons 84 = .ok (.iload_n 2, 1) := wn_at gdX11_noons_77 4 rfl
theorem dX11_noons_85 : decode cX11_noons 85 = .ok (.imul, 1) := wn_at gdX11_noons_77 5 rfl
theorem dX11_noons_86 : decode cX11_noons 86 = .ok (.iadd, 1) := wn_at gdX11_noons_77 6 rfl
theorem dX11_noons_87 : decode cX11_noons 87 = .ok (.iconst 1, 1) := wn_at gdX11_noons_77 7 rfl
theorem dX11_noons_88 : decode cX11_noons 88 = .ok (.iadd, 1) := wn_at gdX11_noons_77 8 rfl
theorem dX11_noons_89 : decode cX11_noons 89 = .ok (.iaload, 1) := wn_at gdX11_noons_77 9 rfl
theorem gdX11_noons_90 : ∀ e ∈ ([(90, .i2l, 1), (91, .lload 4, 2), (93, .lmul, 1), (94, .lstore 10, 2), (96, .lload 10, 2), (98, .lload 8, 2), (100, .iconst 0, 1), (101, .invokestatic 307, 3), (104, .lstore 12, 2), (106, .lload 12, 2)] : List (Nat × Instr × Nat)), decode cX11_noons e.1 = .ok e.2 := wn_all _ 90 (by decide +kernel)
theorem dX11_noons_90 : decode cX11_noons 90 = .ok (.i2l, 1) := wn_at gdX11_noons_90 0 rfl
theorem dX11_noons_91 : decode cX11_noons 91 = .ok (.lload 4, 2) := wn_at gdX11_noons_90 1 rfl
theorem dX11_noons_93 : decode cX11_noons 93 = .ok (.lmul, 1) := wn_at gdX11_noons_90 2 rfl
theorem dX11_noons_94 : decode cX11_noons 94 = .ok (.lstore 10, 2) := wn_at gdX11_noons_90 3 rfl
theorem dX11_noons_96 : decode cX11_noons 96 = .ok (.lload 10, 2) := wn_at gdX11_noons_90 4 rfl
theorem dX11_noons_98 : decode cX11_noons 98 = .ok (.lload 8, 2) := wn_at gdX11_noons_90 5 rfl
theorem dX11_noons_100 : decode cX11_noons 100 = .ok (.iconst 0, 1) := wn_at gdX11_noons_90 6 rfl
theorem dX11_noons_101 : decode cX11_noons 101 = .ok (.invokestatic 307, 3) := wn_at gdX11_noons_90 7 rfl
theorem dX11_noons_104 : decode cX11_noons 104 = .ok (.lstore 12, 2) := wn_at gdX11_noons_90 8 rfl
theorem dX11_noons_106 : decode cX11_noons 106 = .ok (.lload 12, 2) := wn_at gdX11_noons_90 9 rfl
theorem gdX11_noons_108 : ∀ e ∈ ([(108, .ldc2_w 302, 3), (111, .lrem, 1), (112, .lconst 0, 1), (113, .lcmp, 1), (114, .ifCond .eq 20, 3), (117, .lload 10, 2), (119, .lload 8, 2), (121, .iconst 1, 1), (122, .invokestatic 307, 3), (125, .ldc2_w 302, 3)] : List (Nat × Instr × Nat)), decode cX11_noons e.1 = .ok e.2 := wn_all _ 108 (by decide +kernel)
theorem dX11_noons_108 : decode cX11_noons 108 = .ok (.ldc2_w 302, 3) := wn_at gdX11_noons_108 0 rfl
theorem dX11_noons_111 : decode cX11_noons 111 = .ok (.lrem, 1) := wn_at gdX11_noons_108 1 rfl
theorem dX11_noons_112 : decode cX11_noons 112 = .ok (.lconst 0, 1) := wn_at gdX11_noons_108 2 rfl
theorem dX11_noons_113 : decode cX11_noons 113 = .ok (.lcmp, 1) := wn_at gdX11_noons_108 3 rfl
theorem dX11_noons_114 : decode cX11_noons 114 = .ok (.ifCond .eq 20, 3) := wn_at gdX11_noons_108 4 rfl
theorem dX11_noons_117 : decode cX11_noons 117 = .ok (.lload 10, 2) := wn_at gdX11_noons_108 5 rfl
theorem dX11_noons_119 : decode cX11_noons 119 = .ok (.lload 8, 2) := wn_at gdX11_noons_108 6 rfl
theorem dX11_noons_121 : decode cX11_noons 121 = .ok (.iconst 1, 1) := wn_at gdX11_noons_108 7 rfl
theorem dX11_noons_122 : decode cX11_noons 122 = .ok (.invokestatic 307, 3) := wn_at gdX11_noons_108 8 rfl
theorem dX11_noons_125 : decode cX11_noons 125 = .ok (.ldc2_w 302, 3) := wn_at gdX11_noons_108 9 rfl
theorem gdX11_noons_128 : ∀ e ∈ ([(128, .lrem, 1), (129, .lconst 0, 1), (130, .lcmp, 1), (131, .ifCond .ne 7, 3), (134, .ldc2_w 360, 3), (137, .lreturn, 1), (138, .ldc2_w 367, 3), (141, .lload 12, 2), (143, .lmul, 1), (144, .lload 6, 2)] : List (Nat × Instr × Nat)), decode cX11_noons e.1 = .ok e.2 := wn_all _ 128 (by decide +kernel)
theorem dX11_noons_128 : decode cX11_noons 128 = .ok (.lrem, 1) := wn_at gdX11_noons_128 0 rfl
theorem dX11_noons_129 : decode cX11_noons 129 = .ok (.lconst 0, 1) := wn_at gdX11_noons_128 1 rfl
theorem dX11_noons_130 : decode cX11_noons 130 = .ok (.lcmp, 1) := wn_at gdX11_noons_128 2 rfl
theorem dX11_noons_131 : decode cX11_noons 131 = .ok (.ifCond .ne 7, 3) := wn_at gdX11_noons_128 3 rfl
theorem dX11_noons_134 : decode cX11_noons 134 = .ok (.ldc2_w 360, 3) := wn_at gdX11_noons_128 4 rfl
theorem dX11_noons_137 : decode cX11_noons 137 = .ok (.lreturn, 1) := wn_at gdX11_noons_128 5 rfl
theorem dX11_noons_138 : decode cX11_noons 138 = .ok (.ldc2_w 367, 3) := wn_at gdX11_noons_128 6 rfl
theorem dX11_noons_141 : decode cX11_noons 141 = .ok (.lload 12, 2) := wn_at gdX11_noons_128 7 rfl
theorem dX11_noons_143 : decode cX11_noons 143 = .ok (.lmul, 1) := wn_at gdX11_noons_128 8 rfl
theorem dX11_noons_144 : decode cX11_noons 144 = .ok (.lload 6, 2) := wn_at gdX11_noons_128 9 rfl
theorem gdX11_noons_146 : ∀ e ∈ ([(146, .lmul, 1), (147, .lload 4, 2), (149, .iload_n 3, 1), (150, .invokestatic 307, 3), (153, .lreturn, 1)] : List (Nat × Instr × Nat)), decode cX11_noons e.1 = .ok e.2 := wn_all _ 146 (by decide +kernel)
theorem dX11_noons_146 : decode cX11_noons 146 = .ok (.lmul, 1) := wn_at gdX11_noons_146 0 rfl
theorem dX11_noons_147 : decode cX11_noons 147 = .ok (.lload 4, 2) := wn_at gdX11_noons_146 1 rfl
theorem dX11_noons_149 : decode cX11_noons 149 = .ok (.iload_n 3, 1) := wn_at gdX11_noons_146 2 rfl
theorem dX11_noons_150 : decode cX11_noons 150 = .ok (.invokestatic 307, 3) := wn_at gdX11_noons_146 3 rfl
theorem dX11_noons_153 : decode cX11_noons 153 = .ok (.lreturn, 1) := wn_at gdX11_noons_146 4 rfl
theorem gdX11_isBetter_0 : ∀ e ∈ ([(0, .lload_n 3, 1), (1, .lconst 0, 1), (2, .lcmp, 1), (3, .ifCond .lt 23, 3), (6, .iload 5, 2), (8, .ifCond .eq 12, 3), (11, .lload_n 1, 1), (12, .lload_n 3, 1), (13, .lcmp, 1), (14, .ifCond .le 16, 3)] : List (Nat × Instr × Nat)), decode cX11_isBetter e.1 = .ok e.2 := wn_all _ 0 (by decide +kernel)
theorem dX11_isBetter_0 : decode cX11_isBetter 0 = .ok (.lload_n 3, 1) := wn_at gdX11_isBetter_0 0 rfl
theorem dX11_isBetter_1 : decode cX11_isBetter 1 = .ok (.lconst 0, 1) := wn_at gdX11_isBetter_0 1 rfl
theorem dX11_isBetter_2 : decode cX11_isBetter 2 = .ok (.lcmp, 1) := wn_at gdX11_isBetter_0 2 rfl
theorem dX11_isBetter_3 : decode cX11_isBetter 3 = .ok (.ifCond .lt 23, 3) := wn_at gdX11_isBetter_0 3 rfl
theorem dX11_isBetter_6 : decode cX11_isBetter 6 = .ok (.iload 5, 2) := wn_at gdX11_isBetter_0 4 rfl
theorem dX11_isBetter_8 : decode cX11_isBetter 8 = .ok (.ifCond .eq 12, 3) := wn_at gdX11_isBetter_0 5 rfl
theorem dX11_isBetter_11 : decode cX11_isBetter 11 = .ok (.lload_n 1, 1) := wn_at gdX11_isBetter_0 6 rfl
theorem dX11_isBetter_12 : decode cX11_isBetter 12 = .ok (.lload_n 3, 1) := wn_at gdX11_isBetter_0 7 rfl
theorem dX11_isBetter_13 : decode cX11_isBetter 13 = .ok (.lcmp, 1) := wn_at gdX11_isBetter_0 8 rfl
theorem dX11_isBetter_14 : decode cX11_isBetter 14 = .ok (.ifCond .le 16, 3) := wn_at gdX11_isBetter_0 9 rfl
theorem gdX11_isBetter_17 : ∀ e ∈ ([(17, .goto 9, 3), (20, .lload_n 1, 1), (21, .lload_n 3, 1), (22, .lcmp, 1), (23, .ifCond .ge 7, 3), (26, .iconst 1, 1), (27, .goto 4, 3), (30, .iconst 0, 1), (31, .ireturn, 1)] : List (Nat × Instr × Nat)), decode cX11_isBetter e.1 = .ok e.2 := wn_all _ 17 (by decide +kernel)
theorem dX11_isBetter_17 : decode cX11_isBetter 17 = .ok (.goto 9, 3) := wn_at gdX11_isBetter_17 0 rfl
theorem dX11_isBetter_20 : decode cX11_isBetter 20 = .ok (.lload_n 1, 1) := wn_at gdX11_isBetter_17 1 rfl
theorem dX11_isBetter_21 : decode cX11_isBetter 21 = .ok (.lload_n 3, 1) := wn_at gdX11_isBetter_17 2 rfl
theorem dX11_isBetter_22 : decode cX11_isBetter 22 = .ok (.lcmp, 1) := wn_at gdX11_isBetter_17 3 rfl
theorem dX11_isBetter_23 : decode cX11_isBetter 23 = .ok (.ifCond .ge 7, 3) := wn_at gdX11_isBetter_17 4 rfl
theorem dX11_isBetter_26 : decode cX11_isBetter 26 = .ok (.iconst 1, 1) := wn_at gdX11_isBetter_17 5 rfl
theorem dX11_isBetter_27 : decode cX11_isBetter 27 = .ok (.goto 4, 3) := wn_at gdX11_isBetter_17 6 rfl
theorem dX11_isBetter_30 : decode cX11_isBetter 30 = .ok (.iconst 0, 1) := wn_at gdX11_isBetter_17 7 rfl
theorem dX11_isBetter_31 : decode cX11_isBetter 31 = .ok (.ireturn, 1) := wn_at gdX11_isBetter_17 8 rfl
theorem gdX11_by_0 : ∀ e ∈ ([(0, .iload_n 3, 1), (1, .ifCond .ge 7, 3), (4, .iconst 1, 1), (5, .goto 9, 3), (8, .aload_n 0, 1), (9, .iload_n 3, 1), (10, .iconst 2, 1), (11, .invokevirtual 283, 3), (14, .istore 5, 2), (16, .iload_n 3, 1)] : List (Nat × Instr × Nat)), decode cX11_by e.1 = .ok e.2 := wn_all _ 0 (by decide +kernel)
theorem dX11_by_0 : decode cX11_by 0 = .ok (.iload_n 3, 1) := wn_at gdX11_by_0 0 rfl
theorem dX11_by_1 : decode cX11_by 1 = .ok (.ifCond .ge 7, 3) := wn_at gdX11_by_0 1 rfl
theorem dX11_by_4 : decode cX11_by 4 = .ok (.iconst 1, 1) := wn_at gdX11_by_0 2 rfl
theorem dX11_by_5 : decode cX11_by 5 = .ok (.goto 9, 3) := wn_at gdX11_by_0 3 rfl
theorem dX11_by_8 : decode cX11_by 8 = .ok (.aload_n 0, 1) := wn_at gdX11_by_0 4 rfl
theorem dX11_by_9 : decode cX11_by 9 = .ok (.iload_n 3, 1) := wn_at gdX11_by_0 5 rfl
theorem dX11_by_10 : decode cX11_by 10 = .ok (.iconst 2, 1) := wn_at gdX11_by_0 6 rfl
theorem dX11_by_11 : decode cX11_by 11 = .ok (.invokevirtual 283, 3) := wn_at gdX11_by_0 7 rfl
theorem dX11_by_14 : decode cX11_by 14 = .ok (.istore 5, 2) := wn_at gdX11_by_0 8 rfl
theorem dX11_by_16 : decode cX11_by 16 = .ok (.iload_n 3, 1) := wn_at gdX11_by_0 9 rfl
theorem gdX11_by_17 : ∀ e ∈ ([(17, .ifCond .ge 7, 3), (20, .iload_n 1, 1), (21, .goto 9, 3), (24, .aload_n 0, 1), (25, .iload_n 3, 1), (26, .iload_n 1, 1), (27, .invokevirtual 293, 3), (30, .istore 6, 2), (32, .iload 6, 2), (34, .ifCond .lt 32, 3)] : List (Nat × Instr × Nat)), decode cX11_by e.1 = .ok e.2 := wn_all _ 17 (by decide +kernel)
theorem dX11_by_17 : decode cX11_by 17 = .ok (.ifCond .ge 7, 3) := wn_at gdX11_by_17 0 rfl
theorem dX11_by_20 : decode cX11_by 20 = .ok (.iload_n 1, 1) := wn_at gdX11_by_17 1 rfl
theorem dX11_by_21 : decode cX11_by 21 = .ok (.goto 9, 3) := wn_at gdX11_by_17 2 rfl
theorem dX11_by_24 : decode cX11_by 24 = .ok (.aload_n 0, 1) := wn_at gdX11_by_17 3 rfl
theorem dX11_by_25 : decode cX11_by 25 = .ok (.iload_n 3, 1) := wn_at gdX11_by_17 4 rfl
theorem dX11_by_26 : decode cX11_by 26 = .ok (.iload_n 1, 1) := wn_at gdX11_by_17 5 rfl
theorem dX11_by_27 : decode cX11_by 27 = .ok (.invokevirtual 293, 3) := wn_at gdX11_by_17 6 rfl
theorem dX11_by_30 : decode cX11_by 30 = .ok (.istore 6, 2) := wn_at gdX11_by_17 7 rfl
theorem dX11_by_32 : decode cX11_by 32 = .ok (.iload 6, 2) := wn_at gdX11_by_17 8 rfl
theorem dX11_by_34 : decode cX11_by 34 = .ok (.ifCond .lt 32, 3) := wn_at gdX11_by_17 9 rfl
theorem gdX11_by_37 : ∀ e ∈ ([(37, .iload_n 2, 1), (38, .iload 5, 2), (40, .iadd, 1), (41, .iload 4, 2), (43, .if_icmp .gt 23, 3), (46, .aload_n 0, 1), (47, .getfield 60, 3), (50, .bipush 10, 2), (52, .iload_n 2, 1), (53, .iload 5, 2)] : List (Nat × Instr × Nat)), decode cX11_by e.1 = .ok e.2 := wn_all _ 37 (by decide +kernel)
theorem dX11_by_37 : decode cX11_by 37 = .ok (.iload_n 2, 1) := wn_at gdX11_by_37 0 rfl
theorem dX11_by_38 : decode cX11_by 38 = .ok (.iload 5, 2) := wn_at gdX11_by_37 1 rfl
theorem dX11_by_40 : decode cX11_by 40 = .ok (.iadd, 1) := wn_at gdX11_by_37 2 rfl
theorem dX11_by_41 : decode cX11_by 41 = .ok (.iload 4, 2) := wn_at gdX11_by_37 3 rfl
theorem dX11_by_43 : decode cX11_by 43 = .ok (.if_icmp .gt 23, 3) := wn_at gdX11_by_37 4 rfl
theorem dX11_by_46 : decode cX11_by 46 = .ok (.aload_n 0, 1) := wn_at gdX11_by_37 5 rfl
theorem dX11_by_47 : decode cX11_by 47 = .ok (.getfield 60, 3) := wn_at gdX11_by_37 6 rfl
theorem dX11_by_50 : decode cX11_by 50 = .ok (.bipush 10, 2) := wn_at gdX11_by_37 7 rfl
theorem dX11_by_52 : decode cX11_by 52 = .ok (.iload_n 2, 1) := wn_at gdX11_by_37 8 rfl
theorem dX11_by_53 : decode cX11_by 53 = .ok (.iload 5, 2) := wn_at gdX11_by_37 9 rfl
theorem gdX11_by_55 : ∀ e ∈ ([(55, .iadd, 1), (56, .imul, 1), (57, .iload 6, 2), (59, .iadd, 1), (60, .laload, 1), (61, .lconst 0, 1), (62, .lcmp, 1), (63, .ifCond .ge 7, 3), (66, .ldc2_w 321, 3), (69, .lreturn, 1)] : List (Nat × Instr × Nat)), decode cX11_by e.1 = .ok e.2 := wn_all _ 55 (by decide +kernel)
theorem dX11_by_55 : decode cX11_by 55 = .ok (.iadd, 1) := wn_at gdX11_by_55 0 rfl
theorem dX11_by_56 : decode cX11_by 56 = .ok (.imul, 1) := wn_at gdX11_by_55 1 rfl
theorem dX11_by_57 : decode cX11_by 57 = .ok (.iload 6, 2) := wn_at gdX11_by_55 2 rfl
theorem dX11_by_59 : decode cX11_by 59 = .ok (.iadd, 1) := wn_at gdX11_by_55 3 rfl
theorem dX11_by_60 : decode cX11_by 60 = .ok (.laload, 1) := wn_at gdX11_by_55 4 rfl
theorem dX11_by_61 : decode cX11_by 61 = .ok (.lconst 0, 1) := wn_at gdX11_by_55 5 rfl
theorem dX11_by_62 : decode cX11_by 62 = .ok (.lcmp, 1) := wn_at gdX11_by_55 6 rfl
theorem dX11_by_63 : decode cX11_by 63 = .ok (.ifCond .ge 7, 3) := wn_at gdX11_by_55 7 rfl
theorem dX11_by_66 : decode cX11_by 66 = .ok (.ldc2_w 321, 3) := wn_at gdX11_by_55 8 rfl
theorem dX11_by_69 : decode cX11_by 69 = .ok (.lreturn, 1) := wn_at gdX11_by_55 9 rfl
theorem gdX11_by_70 : ∀ e ∈ ([(70, .aload_n 0, 1), (71, .getfield 60, 3), (74, .bipush 10, 2), (76, .iload_n 2, 1), (77, .iload 5, 2), (79, .iadd, 1), (80, .imul, 1), (81, .iload 6, 2), (83, .iadd, 1), (84, .laload, 1)] : List (Nat × Instr × Nat)), decode cX11_by e.1 = .ok e.2 := wn_all _ 70 (by decide +kernel)
theorem dX11_by_70 : decode cX11_by 70 = .ok (.aload_n 0, 1) := wn_at gdX11_by_70 0 rfl
theorem dX11_by_71 : decode cX11_by 71 = .ok (.getfield 60, 3) := wn_at gdX11_by_70 1 rfl
theorem dX11_by_74 : decode cX11_by 74 = .ok (.bipush 10, 2) := wn_at gdX11_by_70 2 rfl
theorem dX11_by_76 : decode cX11_by 76 = .ok (.iload_n 2, 1) := wn_at gdX11_by_70 3 rfl
theorem dX11_by_77 : decode cX11_by 77 = .ok (.iload 5, 2) := wn_at gdX11_by_70 4 rfl
theorem dX11_by_79 : decode cX11_by 79 = .ok (.iadd, 1) := wn_at gdX11_by_70 5 rfl
theorem dX11_by_80 : decode cX11_by 80 = .ok (.imul, 1) := wn_at gdX11_by_70 6 rfl
theorem dX11_by_81 : decode cX11_by 81 = .ok (.iload 6, 2) := wn_at gdX11_by_70 7 rfl
theorem dX11_by_83 : decode cX11_by 83 = .ok (.iadd, 1) := wn_at gdX11_by_70 8 rfl
theorem dX11_by_84 : decode cX11_by 84 = .ok (.laload, 1) := wn_at gdX11_by_70 9 rfl
theorem gdX11_by_85 : ∀ e ∈ ([(85, .iload 5, 2), (87, .i2l, 1), (88, .iload_n 3, 1), (89, .ifCond .ge 11, 3), (92, .aload_n 0, 1), (93, .iload_n 1, 1), (94, .invokevirtual 333, 3), (97, .goto 8, 3), (100, .aload_n 0, 1), (101, .iload_n 3, 1)] : List (Nat × Instr × Nat)), decode cX11_by e.1 = .ok e.2 := wn_all _ 85 (by decide +kernel)
theorem dX11_by_85 : decode cX11_by 85 = .ok (.iload 5, 2) := wn_at gdX11_by_85 0 rfl
theorem dX11_by_87 : decode cX11_by 87 = .ok (.i2l, 1) := wn_at gdX11_by_85 1 rfl
theorem dX11_by_88 : decode cX11_by 88 = .ok (.iload_n 3, 1) := wn_at gdX11_by_85 2 rfl
theorem dX11_by_89 : decode cX11_by 89 = .ok (.ifCond .ge 11, 3) := wn_at gdX11_by_85 3 rfl
theorem dX11_by_92 : decode cX11_by 92 = .ok (.aload_n 0, 1) := wn_at gdX11_by_85 4 rfl
theorem dX11_by_93 : decode cX11_by 93 = .ok (.iload_n 1, 1) := wn_at gdX11_by_85 5 rfl
theorem dX11_by_94 : decode cX11_by 94 = .ok (.invokevirtual 333, 3) := wn_at gdX11_by_85 6 rfl
theorem dX11_by_97 : decode cX11_by 97 = .ok (.goto 8, 3) := wn_at gdX11_by_85 7 rfl
theorem dX11_by_100 : decode cX11_by 100 = .ok (.aload_n 0, 1) := wn_at gdX11_by_85 8 rfl
theorem dX11_by_101 : decode cX11_by 101 = .ok (.iload_n 3, 1) := wn_at gdX11_by_85 9 rfl
theorem gdX11_by_102 : ∀ e ∈ ([(102, .invokevirtual 337, 3), (105, .lmul, 1), (106, .ladd, 1), (107, .lreturn, 1)] : List (Nat × Instr × Nat)), decode cX11_by e.1 = .ok e.2 := wn_all _ 102 (by decide +kernel)
theorem dX11_by_102 : decode cX11_by 102 = .ok (.invokevirtual 337, 3) := wn_at gdX11_by_102 0 rfl
theorem dX11_by_105 : decode cX11_by 105 = .ok (.lmul, 1) := wn_at gdX11_by_102 1 rfl
theorem dX11_by_106 : decode cX11_by 106 = .ok (.ladd, 1) := wn_at gdX11_by_102 2 rfl
theorem dX11_by_107 : decode cX11_by 107 = .ok (.lreturn, 1) := wn_at gdX11_by_102 3 rfl
theorem gdX11_bestFrom_0 : ∀ e ∈ ([(0, .ldc2_w 321, 3), (3, .lstore 5, 2), (5, .iconst (-1), 1), (6, .istore 7, 2), (8, .iload 7, 2), (10, .aload_n 0, 1), (11, .getfield 45, 3), (14, .iconst 1, 1), (15, .iaload, 1), (16, .if_icmp .ge 44, 3)] : List (Nat × Instr × Nat)), decode cX11_bestFrom e.1 = .ok e.2 := wn_all _ 0 (by decide +kernel)
theorem dX11_bestFrom_0 : decode cX11_bestFrom 0 = .ok (.ldc2_w 321, 3) := wn_at gdX11_bestFrom_0 0 rfl
theorem dX11_bestFrom_3 : decode cX11_bestFrom 3 = .ok (.lstore 5, 2) := wn_at gdX11_bestFrom_0 1 rfl
theorem dX11_bestFrom_5 : decode cX11_bestFrom 5 = .ok (.iconst (-1), 1) := wn_at gdX11_bestFrom_0 2 rfl
theorem dX11_bestFrom_6 : decode cX11_bestFrom 6 = .ok (.istore 7, 2) := wn_at gdX11_bestFrom_0 3 rfl
theorem dX11_bestFrom_8 : decode cX11_bestFrom 8 = .ok (.iload 7, 2) := wn_at gdX11_bestFrom_0 4 rfl
theorem dX11_bestFrom_10 : decode cX11_bestFrom 10 = .ok (.aload_n 0, 1) := wn_at gdX11_bestFrom_0 5 rfl
theorem dX11_bestFrom_11 : decode cX11_bestFrom 11 = .ok (.getfield 45, 3) := wn_at gdX11_bestFrom_0 6 rfl
theorem dX11_bestFrom_14 : decode cX11_bestFrom 14 = .ok (.iconst 1, 1) := wn_at gdX11_bestFrom_0 7 rfl
theorem dX11_bestFrom_15 : decode cX11_bestFrom 15 = .ok (.iaload, 1) := wn_at gdX11_bestFrom_0 8 rfl
theorem dX11_bestFrom_16 : decode cX11_bestFrom 16 = .ok (.if_icmp .ge 44, 3) := wn_at gdX11_bestFrom_0 9 rfl
theorem gdX11_bestFrom_19 : ∀ e ∈ ([(19, .aload_n 0, 1), (20, .iload_n 1, 1), (21, .iload_n 2, 1), (22, .iload 7, 2), (24, .iload_n 3, 1), (25, .invokevirtual 369, 3), (28, .lstore 8, 2), (30, .lload 8, 2), (32, .lconst 0, 1), (33, .lcmp, 1)] : List (Nat × Instr × Nat)), decode cX11_bestFrom e.1 = .ok e.2 := wn_all _ 19 (by decide +kernel)
theorem dX11_bestFrom_19 : decode cX11_bestFrom 19 = .ok (.aload_n 0, 1) := wn_at gdX11_bestFrom_19 0 rfl
theorem dX11_bestFrom_20 : decode cX11_bestFrom 20 = .ok (.iload_n 1, 1) := wn_at gdX11_bestFrom_19 1 rfl
theorem dX11_bestFrom_21 : decode cX11_bestFrom 21 = .ok (.iload_n 2, 1) := wn_at gdX11_bestFrom_19 2 rfl
theorem dX11_bestFrom_22 : decode cX11_bestFrom 22 = .ok (.iload 7, 2) := wn_at gdX11_bestFrom_19 3 rfl
theorem dX11_bestFrom_24 : decode cX11_bestFrom 24 = .ok (.iload_n 3, 1) := wn_at gdX11_bestFrom_19 4 rfl
theorem dX11_bestFrom_25 : decode cX11_bestFrom 25 = .ok (.invokevirtual 369, 3) := wn_at gdX11_bestFrom_19 5 rfl
theorem dX11_bestFrom_28 : decode cX11_bestFrom 28 = .ok (.lstore 8, 2) := wn_at gdX11_bestFrom_19 6 rfl
theorem dX11_bestFrom_30 : decode cX11_bestFrom 30 = .ok (.lload 8, 2) := wn_at gdX11_bestFrom_19 7 rfl
theorem dX11_bestFrom_32 : decode cX11_bestFrom 32 = .ok (.lconst 0, 1) := wn_at gdX11_bestFrom_19 8 rfl
theorem dX11_bestFrom_33 : decode cX11_bestFrom 33 = .ok (.lcmp, 1) := wn_at gdX11_bestFrom_19 9 rfl
theorem gdX11_bestFrom_34 : ∀ e ∈ ([(34, .ifCond .lt 20, 3), (37, .aload_n 0, 1), (38, .lload 8, 2), (40, .lload 5, 2), (42, .iload 4, 2), (44, .invokevirtual 373, 3), (47, .ifCond .eq 7, 3), (50, .lload 8, 2), (52, .lstore 5, 2), (54, .iinc 7 1, 3)] : List (Nat × Instr × Nat)), decode cX11_bestFrom e.1 = .ok e.2 := wn_all _ 34 (by decide +kernel)
theorem dX11_bestFrom_34 : decode cX11_bestFrom 34 = .ok (.ifCond .lt 20, 3) := wn_at gdX11_bestFrom_34 0 rfl
theorem dX11_bestFrom_37 : decode cX11_bestFrom 37 = .ok (.aload_n 0, 1) := wn_at gdX11_bestFrom_34 1 rfl
theorem dX11_bestFrom_38 : decode cX11_bestFrom 38 = .ok (.lload 8, 2) := wn_at gdX11_bestFrom_34 2 rfl
theorem dX11_bestFrom_40 : decode cX11_bestFrom 40 = .ok (.lload 5, 2) := wn_at gdX11_bestFrom_34 3 rfl
theorem dX11_bestFrom_42 : decode cX11_bestFrom 42 = .ok (.iload 4, 2) := wn_at gdX11_bestFrom_34 4 rfl
theorem dX11_bestFrom_44 : decode cX11_bestFrom 44 = .ok (.invokevirtual 373, 3) := wn_at gdX11_bestFrom_34 5 rfl
theorem dX11_bestFrom_47 : decode cX11_bestFrom 47 = .ok (.ifCond .eq 7, 3) := wn_at gdX11_bestFrom_34 6 rfl
theorem dX11_bestFrom_50 : decode cX11_bestFrom 50 = .ok (.lload 8, 2) := wn_at gdX11_bestFrom_34 7 rfl
theorem dX11_bestFrom_52 : decode cX11_bestFrom 52 = .ok (.lstore 5, 2) := wn_at gdX11_bestFrom_34 8 rfl
theorem dX11_bestFrom_54 : decode cX11_bestFrom 54 = .ok (.iinc 7 1, 3) := wn_at gdX11_bestFrom_34 9 rfl
theorem gdX11_bestFrom_57 : ∀ e ∈ ([(57, .goto (-49), 3), (60, .lload 5, 2), (62, .lreturn, 1)] : List (Nat × Instr × Nat)), decode cX11_bestFrom e.1 = .ok e.2 := wn_all _ 57 (by decide +kernel)
theorem dX11_bestFrom_57 : decode cX11_bestFrom 57 = .ok (.goto (-49), 3) := wn_at gdX11_bestFrom_57 0 rfl
theorem dX11_bestFrom_60 : decode cX11_bestFrom 60 = .ok (.lload 5, 2) := wn_at gdX11_bestFrom_57 1 rfl
theorem dX11_bestFrom_62 : decode cX11_bestFrom 62 = .ok (.lreturn, 1) := wn_at gdX11_bestFrom_57 2 rfl
theorem gdX11_plan_0 : ∀ e ∈ ([(0, .aload_n 0, 1), (1, .iload_n 1, 1), (2, .invokevirtual 316, 3), (5, .ifCond .eq 45, 3), (8, .aload_n 0, 1), (9, .iload_n 1, 1), (10, .iconst 0, 1), (11, .invokevirtual 296, 3), (14, .ifCond .lt 36, 3), (17, .aload_n 0, 1)] : List (Nat × Instr × Nat)), decode cX11_plan e.1 = .ok e.2 := wn_all _ 0 (by decide +kernel)
theorem dX11_plan_0 : decode cX11_plan 0 = .ok (.aload_n 0, 1) := wn_at gdX11_plan_0 0 rfl
theorem dX11_plan_1 : decode cX11_plan 1 = .ok (.iload_n 1, 1) := wn_at gdX11_plan_0 1 rfl
theorem dX11_plan_2 : decode cX11_plan 2 = .ok (.invokevirtual 316, 3) := wn_at gdX11_plan_0 2 rfl
theorem dX11_plan_5 : decode cX11_plan 5 = .ok (.ifCond .eq 45, 3) := wn_at gdX11_plan_0 3 rfl
theorem dX11_plan_8 : decode cX11_plan 8 = .ok (.aload_n 0, 1) := wn_at gdX11_plan_0 4 rfl
theorem dX11_plan_9 : decode cX11_plan 9 = .ok (.iload_n 1, 1) := wn_at gdX11_plan_0 5 rfl
theorem dX11_plan_10 : decode cX11_plan 10 = .ok (.iconst 0, 1) := wn_at gdX11_plan_0 6 rfl
theorem dX11_plan_11 : decode cX11_plan 11 = .ok (.invokevirtual 296, 3) := wn_at gdX11_plan_0 7 rfl
theorem dX11_plan_14 : decode cX11_plan 14 = .ok (.ifCond .lt 36, 3) := wn_at gdX11_plan_0 8 rfl
theorem dX11_plan_17 : decode cX11_plan 17 = .ok (.aload_n 0, 1) := wn_at gdX11_plan_0 9 rfl
theorem gdX11_plan_18 : ∀ e ∈ ([(18, .iload_n 2, 1), (19, .invokevirtual 299, 3), (22, .ifCond .eq 28, 3), (25, .iload_n 3, 1), (26, .i2l, 1), (27, .lconst 0, 1), (28, .ldc2_w 377, 3), (31, .invokestatic 131, 3), (34, .ifCond .eq 16, 3), (37, .iload 5, 2)] : List (Nat × Instr × Nat)), decode cX11_plan e.1 = .ok e.2 := wn_all _ 18 (by decide +kernel)
theorem dX11_plan_18 : decode cX11_plan 18 = .ok (.iload_n 2, 1) := wn_at gdX11_plan_18 0 rfl
theorem dX11_plan_19 : decode cX11_plan 19 = .ok (.invokevirtual 299, 3) := wn_at gdX11_plan_18 1 rfl
theorem dX11_plan_22 : decode cX11_plan 22 = .ok (.ifCond .eq 28, 3) := wn_at gdX11_plan_18 2 rfl
theorem dX11_plan_25 : decode cX11_plan 25 = .ok (.iload_n 3, 1) := wn_at gdX11_plan_18 3 rfl
theorem dX11_plan_26 : decode cX11_plan 26 = .ok (.i2l, 1) := wn_at gdX11_plan_18 4 rfl
theorem dX11_plan_27 : decode cX11_plan 27 = .ok (.lconst 0, 1) := wn_at gdX11_plan_18 5 rfl
theorem dX11_plan_28 : decode cX11_plan 28 = .ok (.ldc2_w 377, 3) := wn_at gdX11_plan_18 6 rfl
theorem dX11_plan_31 : decode cX11_plan 31 = .ok (.invokestatic 131, 3) := wn_at gdX11_plan_18 7 rfl
theorem dX11_plan_34 : decode cX11_plan 34 = .ok (.ifCond .eq 16, 3) := wn_at gdX11_plan_18 8 rfl
theorem dX11_plan_37 : decode cX11_plan 37 = .ok (.iload 5, 2) := wn_at gdX11_plan_18 9 rfl
theorem gdX11_plan_39 : ∀ e ∈ ([(39, .i2l, 1), (40, .lconst 0, 1), (41, .ldc2_w 302, 3), (44, .invokestatic 131, 3), (47, .ifCond .ne 7, 3), (50, .ldc2_w 321, 3), (53, .lreturn, 1), (54, .iconst 0, 1), (55, .istore 6, 2), (57, .iload 6, 2)] : List (Nat × Instr × Nat)), decode cX11_plan e.1 = .ok e.2 := wn_all _ 39 (by decide +kernel)
theorem dX11_plan_39 : decode cX11_plan 39 = .ok (.i2l, 1) := wn_at gdX11_plan_39 0 rfl
theorem dX11_plan_40 : decode cX11_plan 40 = .ok (.lconst 0, 1) := wn_at gdX11_plan_39 1 rfl
theorem dX11_plan_41 : decode cX11_plan 41 = .ok (.ldc2_w 302, 3) := wn_at gdX11_plan_39 2 rfl
theorem dX11_plan_44 : decode cX11_plan 44 = .ok (.invokestatic 131, 3) := wn_at gdX11_plan_39 3 rfl
theorem dX11_plan_47 : decode cX11_plan 47 = .ok (.ifCond .ne 7, 3) := wn_at gdX11_plan_39 4 rfl
theorem dX11_plan_50 : decode cX11_plan 50 = .ok (.ldc2_w 321, 3) := wn_at gdX11_plan_39 5 rfl
theorem dX11_plan_53 : decode cX11_plan 53 = .ok (.lreturn, 1) := wn_at gdX11_plan_39 6 rfl
theorem dX11_plan_54 : decode cX11_plan 54 = .ok (.iconst 0, 1) := wn_at gdX11_plan_39 7 rfl
theorem dX11_plan_55 : decode cX11_plan 55 = .ok (.istore 6, 2) := wn_at gdX11_plan_39 8 rfl
theorem dX11_plan_57 : decode cX11_plan 57 = .ok (.iload 6, 2) := wn_at gdX11_plan_39 9 rfl
theorem gdX11_plan_59 : ∀ e ∈ ([(59, .bipush 10, 2), (61, .if_icmp .ge 34, 3), (64, .aload_n 0, 1), (65, .getfield 60, 3), (68, .bipush 10, 2), (70, .iload_n 3, 1), (71, .imul, 1), (72, .iload 6, 2), (74, .iadd, 1), (75, .iload 6, 2)] : List (Nat × Instr × Nat)), decode cX11_plan e.1 = .ok e.2 := wn_all _ 59 (by decide +kernel)
theorem dX11_plan_59 : decode cX11_plan 59 = .ok (.bipush 10, 2) := wn_at gdX11_plan_59 0 rfl
theorem dX11_plan_61 : decode cX11_plan 61 = .ok (.if_icmp .ge 34, 3) := wn_at gdX11_plan_59 1 rfl
theorem dX11_plan_64 : decode cX11_plan 64 = .ok (.aload_n 0, 1) := wn_at gdX11_plan_59 2 rfl
theorem dX11_plan_65 : decode cX11_plan 65 = .ok (.getfield 60, 3) := wn_at gdX11_plan_59 3 rfl
theorem dX11_plan_68 : decode cX11_plan 68 = .ok (.bipush 10, 2) := wn_at gdX11_plan_59 4 rfl
theorem dX11_plan_70 : decode cX11_plan 70 = .ok (.iload_n 3, 1) := wn_at gdX11_plan_59 5 rfl
theorem dX11_plan_71 : decode cX11_plan 71 = .ok (.imul, 1) := wn_at gdX11_plan_59 6 rfl
theorem dX11_plan_72 : decode cX11_plan 72 = .ok (.iload 6, 2) := wn_at gdX11_plan_59 7 rfl
theorem dX11_plan_74 : decode cX11_plan 74 = .ok (.iadd, 1) := wn_at gdX11_plan_59 8 rfl
theorem dX11_plan_75 : decode cX11_plan 75 = .ok (.iload 6, 2) := wn_at gdX11_plan_59 9 rfl
theorem gdX11_plan_77 : ∀ e ∈ ([(77, .iload_n 2, 1), (78, .if_icmp .ne 7, 3), (81, .lconst 0, 1), (82, .goto 6, 3), (85, .ldc2_w 321, 3), (88, .lastore, 1), (89, .iinc 6 1, 3), (92, .goto (-35), 3), (95, .iload_n 3, 1), (96, .iconst 1, 1)] : List (Nat × Instr × Nat)), decode cX11_plan e.1 = .ok e.2 := wn_all _ 77 (by decide +kernel)
theorem dX11_plan_77 : decode cX11_plan 77 = .ok (.iload_n 2, 1) := wn_at gdX11_plan_77 0 rfl
theorem dX11_plan_78 : decode cX11_plan 78 = .ok (.if_icmp .ne 7, 3) := wn_at gdX11_plan_77 1 rfl
theorem dX11_plan_81 : decode cX11_plan 81 = .ok (.lconst 0, 1) := wn_at gdX11_plan_77 2 rfl
theorem dX11_plan_82 : decode cX11_plan 82 = .ok (.goto 6, 3) := wn_at gdX11_plan_77 3 rfl
theorem dX11_plan_85 : decode cX11_plan 85 = .ok (.ldc2_w 321, 3) := wn_at gdX11_plan_77 4 rfl
theorem dX11_plan_88 : decode cX11_plan 88 = .ok (.lastore, 1) := wn_at gdX11_plan_77 5 rfl
theorem dX11_plan_89 : decode cX11_plan 89 = .ok (.iinc 6 1, 3) := wn_at gdX11_plan_77 6 rfl
theorem dX11_plan_92 : decode cX11_plan 92 = .ok (.goto (-35), 3) := wn_at gdX11_plan_77 7 rfl
theorem dX11_plan_95 : decode cX11_plan 95 = .ok (.iload_n 3, 1) := wn_at gdX11_plan_77 8 rfl
theorem dX11_plan_96 : decode cX11_plan 96 = .ok (.iconst 1, 1) := wn_at gdX11_plan_77 9 rfl
theorem gdX11_plan_97 : ∀ e ∈ ([(97, .isub, 1), (98, .istore 6, 2), (100, .iload 6, 2), (102, .ifCond .lt 53, 3), (105, .iconst 0, 1), (106, .istore 7, 2), (108, .iload 7, 2), (110, .aload_n 0, 1), (111, .getfield 45, 3), (114, .iconst 0, 1)] : List (Nat × Instr × Nat)), decode cX11_plan e.1 = .ok e.2 := wn_all _ 97 (by decide +kernel)
theorem dX11_plan_97 : decode cX11_plan 97 = .ok (.isub, 1) := wn_at gdX11_plan_97 0 rfl
theorem dX11_plan_98 : decode cX11_plan 98 = .ok (.istore 6, 2) := wn_at gdX11_plan_97 1 rfl
theorem dX11_plan_100 : decode cX11_plan 100 = .ok (.iload 6, 2) := wn_at gdX11_plan_97 2 rfl
theorem dX11_plan_102 : decode cX11_plan 102 = .ok (.ifCond .lt 53, 3) := wn_at gdX11_plan_97 3 rfl
theorem dX11_plan_105 : decode cX11_plan 105 = .ok (.iconst 0, 1) := wn_at gdX11_plan_97 4 rfl
theorem dX11_plan_106 : decode cX11_plan 106 = .ok (.istore 7, 2) := wn_at gdX11_plan_97 5 rfl
theorem dX11_plan_108 : decode cX11_plan 108 = .ok (.iload 7, 2) := wn_at gdX11_plan_97 6 rfl
theorem dX11_plan_110 : decode cX11_plan 110 = .ok (.aload_n 0, 1) := wn_at gdX11_plan_97 7 rfl
theorem dX11_plan_111 : decode cX11_plan 111 = .ok (.getfield 45, 3) := wn_at gdX11_plan_97 8 rfl
theorem dX11_plan_114 : decode cX11_plan 114 = .ok (.iconst 0, 1) := wn_at gdX11_plan_97 9 rfl
theorem gdX11_plan_115 : ∀ e ∈ ([(115, .iaload, 1), (116, .if_icmp .ge 33, 3), (119, .aload_n 0, 1), (120, .getfield 60, 3), (123, .bipush 10, 2), (125, .iload 6, 2), (127, .imul, 1), (128, .iload 7, 2), (130, .iadd, 1), (131, .aload_n 0, 1)] : List (Nat × Instr × Nat)), decode cX11_plan e.1 = .ok e.2 := wn_all _ 115 (by decide +kernel)
theorem dX11_plan_115 : decode cX11_plan 115 = .ok (.iaload, 1) := wn_at gdX11_plan_115 0 rfl
theorem dX11_plan_116 : decode cX11_plan 116 = .ok (.if_icmp .ge 33, 3) := wn_at gdX11_plan_115 1 rfl
theorem dX11_plan_119 : decode cX11_plan 119 = .ok (.aload_n 0, 1) := wn_at gdX11_plan_115 2 rfl
theorem dX11_plan_120 : decode cX11_plan 120 = .ok (.getfield 60, 3) := wn_at gdX11_plan_115 3 rfl
theorem dX11_plan_123 : decode cX11_plan 123 = .ok (.bipush 10, 2) := wn_at gdX11_plan_115 4 rfl
theorem dX11_plan_125 : decode cX11_plan 125 = .ok (.iload 6, 2) := wn_at gdX11_plan_115 5 rfl
theorem dX11_plan_127 : decode cX11_plan 127 = .ok (.imul, 1) := wn_at gdX11_plan_115 6 rfl
theorem dX11_plan_128 : decode cX11_plan 128 = .ok (.iload 7, 2) := wn_at gdX11_plan_115 7 rfl
theorem dX11_plan_130 : decode cX11_plan 130 = .ok (.iadd, 1) := wn_at gdX11_plan_115 8 rfl
theorem dX11_plan_131 : decode cX11_plan 131 = .ok (.aload_n 0, 1) := wn_at gdX11_plan_115 9 rfl
theorem gdX11_plan_132 : ∀ e ∈ ([(132, .iload 7, 2), (134, .iload 6, 2), (136, .iload_n 3, 1), (137, .iload 4, 2), (139, .invokevirtual 379, 3), (142, .lastore, 1), (143, .iinc 7 1, 3), (146, .goto (-38), 3), (149, .iinc 6 (-1), 3), (152, .goto (-52), 3)] : List (Nat × Instr × Nat)), decode cX11_plan e.1 = .ok e.2 := wn_all _ 132 (by decide +kernel)
theorem dX11_plan_132 : decode cX11_plan 132 = .ok (.iload 7, 2) := wn_at gdX11_plan_132 0 rfl
theorem dX11_plan_134 : decode cX11_plan 134 = .ok (.iload 6, 2) := wn_at gdX11_plan_132 1 rfl
theorem dX11_plan_136 : decode cX11_plan 136 = .ok (.iload_n 3, 1) := wn_at gdX11_plan_132 2 rfl
theorem dX11_plan_137 : decode cX11_plan 137 = .ok (.iload 4, 2) := wn_at gdX11_plan_132 3 rfl
theorem dX11_plan_139 : decode cX11_plan 139 = .ok (.invokevirtual 379, 3) := wn_at gdX11_plan_132 4 rfl
theorem dX11_plan_142 : decode cX11_plan 142 = .ok (.lastore, 1) := wn_at gdX11_plan_132 5 rfl
theorem dX11_plan_143 : decode cX11_plan 143 = .ok (.iinc 7 1, 3) := wn_at gdX11_plan_132 6 rfl
theorem dX11_plan_146 : decode cX11_plan 146 = .ok (.goto (-38), 3) := wn_at gdX11_plan_132 7 rfl
theorem dX11_plan_149 : decode cX11_plan 149 = .ok (.iinc 6 (-1), 3) := wn_at gdX11_plan_132 8 rfl
theorem dX11_plan_152 : decode cX11_plan 152 = .ok (.goto (-52), 3) := wn_at gdX11_plan_132 9 rfl
theorem gdX11_plan_155 : ∀ e ∈ ([(155, .aload_n 0, 1), (156, .iload_n 1, 1), (157, .iconst 0, 1), (158, .invokevirtual 296, 3), (161, .istore 6, 2), (163, .aload_n 0, 1), (164, .getfield 60, 3), (167, .iload 6, 2), (169, .laload, 1), (170, .lstore 7, 2)] : List (Nat × Instr × Nat)), decode cX11_plan e.1 = .ok e.2 := wn_all _ 155 (by decide +kernel)
theorem dX11_plan_155 : decode cX11_plan 155 = .ok (.aload_n 0, 1) := wn_at gdX11_plan_155 0 rfl
theorem dX11_plan_156 : decode cX11_plan 156 = .ok (.iload_n 1, 1) := wn_at gdX11_plan_155 1 rfl
theorem dX11_plan_157 : decode cX11_plan 157 = .ok (.iconst 0, 1) := wn_at gdX11_plan_155 2 rfl
theorem dX11_plan_158 : decode cX11_plan 158 = .ok (.invokevirtual 296, 3) := wn_at gdX11_plan_155 3 rfl
theorem dX11_plan_161 : decode cX11_plan 161 = .ok (.istore 6, 2) := wn_at gdX11_plan_155 4 rfl
theorem dX11_plan_163 : decode cX11_plan 163 = .ok (.aload_n 0, 1) := wn_at gdX11_plan_155 5 rfl
theorem dX11_plan_164 : decode cX11_plan 164 = .ok (.getfield 60, 3) := wn_at gdX11_plan_155 6 rfl
theorem dX11_plan_167 : decode cX11_plan 167 = .ok (.iload 6, 2) := wn_at gdX11_plan_155 7 rfl
theorem dX11_plan_169 : decode cX11_plan 169 = .ok (.laload, 1) := wn_at gdX11_plan_155 8 rfl
theorem dX11_plan_170 : decode cX11_plan 170 = .ok (.lstore 7, 2) := wn_at gdX11_plan_155 9 rfl
theorem gdX11_plan_172 : ∀ e ∈ ([(172, .lload 7, 2), (174, .lconst 0, 1), (175, .lcmp, 1), (176, .ifCond .ge 7, 3), (179, .ldc2_w 360, 3), (182, .lreturn, 1), (183, .iload 5, 2), (185, .iconst 2, 1), (186, .if_icmp .ge 21, 3), (189, .aload_n 0, 1)] : List (Nat × Instr × Nat)), decode cX11_plan e.1 = .ok e.2 := wn_all _ 172 (by decide +kernel)
theorem dX11_plan_172 : decode cX11_plan 172 = .ok (.lload 7, 2) := wn_at gdX11_plan_172 0 rfl
theorem dX11_plan_174 : decode cX11_plan 174 = .ok (.lconst 0, 1) := wn_at gdX11_plan_172 1 rfl
theorem dX11_plan_175 : decode cX11_plan 175 = .ok (.lcmp, 1) := wn_at gdX11_plan_172 2 rfl
theorem dX11_plan_176 : decode cX11_plan 176 = .ok (.ifCond .ge 7, 3) := wn_at gdX11_plan_172 3 rfl
theorem dX11_plan_179 : decode cX11_plan 179 = .ok (.ldc2_w 360, 3) := wn_at gdX11_plan_172 4 rfl
theorem dX11_plan_182 : decode cX11_plan 182 = .ok (.lreturn, 1) := wn_at gdX11_plan_172 5 rfl
theorem dX11_plan_183 : decode cX11_plan 183 = .ok (.iload 5, 2) := wn_at gdX11_plan_172 6 rfl
theorem dX11_plan_185 : decode cX11_plan 185 = .ok (.iconst 2, 1) := wn_at gdX11_plan_172 7 rfl
theorem dX11_plan_186 : decode cX11_plan 186 = .ok (.if_icmp .ge 21, 3) := wn_at gdX11_plan_172 8 rfl
theorem dX11_plan_189 : decode cX11_plan 189 = .ok (.aload_n 0, 1) := wn_at gdX11_plan_172 9 rfl
theorem gdX11_plan_190 : ∀ e ∈ ([(190, .getfield 48, 3), (193, .iload_n 1, 1), (194, .laload, 1), (195, .lload 7, 2), (197, .ladd, 1), (198, .ldc2_w 281, 3), (201, .iload 5, 2), (203, .invokestatic 307, 3), (206, .lreturn, 1), (207, .iload_n 3, 1)] : List (Nat × Instr × Nat)), decode cX11_plan e.1 = .ok e.2 := wn_all _ 190 (by decide +kernel)
theorem dX11_plan_190 : decode cX11_plan 190 = .ok (.getfield 48, 3) := wn_at gdX11_plan_190 0 rfl
theorem dX11_plan_193 : decode cX11_plan 193 = .ok (.iload_n 1, 1) := wn_at gdX11_plan_190 1 rfl
theorem dX11_plan_194 : decode cX11_plan 194 = .ok (.laload, 1) := wn_at gdX11_plan_190 2 rfl
theorem dX11_plan_195 : decode cX11_plan 195 = .ok (.lload 7, 2) := wn_at gdX11_plan_190 3 rfl
theorem dX11_plan_197 : decode cX11_plan 197 = .ok (.ladd, 1) := wn_at gdX11_plan_190 4 rfl
theorem dX11_plan_198 : decode cX11_plan 198 = .ok (.ldc2_w 281, 3) := wn_at gdX11_plan_190 5 rfl
theorem dX11_plan_201 : decode cX11_plan 201 = .ok (.iload 5, 2) := wn_at gdX11_plan_190 6 rfl
theorem dX11_plan_203 : decode cX11_plan 203 = .ok (.invokestatic 307, 3) := wn_at gdX11_plan_190 7 rfl
theorem dX11_plan_206 : decode cX11_plan 206 = .ok (.lreturn, 1) := wn_at gdX11_plan_190 8 rfl
theorem dX11_plan_207 : decode cX11_plan 207 = .ok (.iload_n 3, 1) := wn_at gdX11_plan_190 9 rfl
theorem gdX11_plan_208 : ∀ e ∈ ([(208, .ifCond .ne 7, 3), (211, .ldc2_w 383, 3), (214, .lreturn, 1), (215, .iconst (-1), 1), (216, .istore 9, 2), (218, .aload_n 0, 1), (219, .iload 6, 2), (221, .iconst 0, 1), (222, .iload 9, 2), (224, .iload_n 3, 1)] : List (Nat × Instr × Nat)), decode cX11_plan e.1 = .ok e.2 := wn_all _ 208 (by decide +kernel)
theorem dX11_plan_208 : decode cX11_plan 208 = .ok (.ifCond .ne 7, 3) := wn_at gdX11_plan_208 0 rfl
theorem dX11_plan_211 : decode cX11_plan 211 = .ok (.ldc2_w 383, 3) := wn_at gdX11_plan_208 1 rfl
theorem dX11_plan_214 : decode cX11_plan 214 = .ok (.lreturn, 1) := wn_at gdX11_plan_208 2 rfl
theorem dX11_plan_215 : decode cX11_plan 215 = .ok (.iconst (-1), 1) := wn_at gdX11_plan_208 3 rfl
theorem dX11_plan_216 : decode cX11_plan 216 = .ok (.istore 9, 2) := wn_at gdX11_plan_208 4 rfl
theorem dX11_plan_218 : decode cX11_plan 218 = .ok (.aload_n 0, 1) := wn_at gdX11_plan_208 5 rfl
theorem dX11_plan_219 : decode cX11_plan 219 = .ok (.iload 6, 2) := wn_at gdX11_plan_208 6 rfl
theorem dX11_plan_221 : decode cX11_plan 221 = .ok (.iconst 0, 1) := wn_at gdX11_plan_208 7 rfl
theorem dX11_plan_222 : decode cX11_plan 222 = .ok (.iload 9, 2) := wn_at gdX11_plan_208 8 rfl
theorem dX11_plan_224 : decode cX11_plan 224 = .ok (.iload_n 3, 1) := wn_at gdX11_plan_208 9 rfl
theorem gdX11_plan_225 : ∀ e ∈ ([(225, .invokevirtual 369, 3), (228, .lload 7, 2), (230, .lcmp, 1), (231, .ifCond .eq 9, 3), (234, .iinc 9 1, 3), (237, .goto (-19), 3), (240, .iload 9, 2), (242, .ifCond .ge 9, 3), (245, .ldc2_w 385, 3), (248, .goto 6, 3)] : List (Nat × Instr × Nat)), decode cX11_plan e.1 = .ok e.2 := wn_all _ 225 (by decide +kernel)
theorem dX11_plan_225 : decode cX11_plan 225 = .ok (.invokevirtual 369, 3) := wn_at gdX11_plan_225 0 rfl
theorem dX11_plan_228 : decode cX11_plan 228 = .ok (.lload 7, 2) := wn_at gdX11_plan_225 1 rfl
theorem dX11_plan_230 : decode cX11_plan 230 = .ok (.lcmp, 1) := wn_at gdX11_plan_225 2 rfl
theorem dX11_plan_231 : decode cX11_plan 231 = .ok (.ifCond .eq 9, 3) := wn_at gdX11_plan_225 3 rfl
theorem dX11_plan_234 : decode cX11_plan 234 = .ok (.iinc 9 1, 3) := wn_at gdX11_plan_225 4 rfl
theorem dX11_plan_237 : decode cX11_plan 237 = .ok (.goto (-19), 3) := wn_at gdX11_plan_225 5 rfl
theorem dX11_plan_240 : decode cX11_plan 240 = .ok (.iload 9, 2) := wn_at gdX11_plan_225 6 rfl
theorem dX11_plan_242 : decode cX11_plan 242 = .ok (.ifCond .ge 9, 3) := wn_at gdX11_plan_225 7 rfl
theorem dX11_plan_245 : decode cX11_plan 245 = .ok (.ldc2_w 385, 3) := wn_at gdX11_plan_225 8 rfl
theorem dX11_plan_248 : decode cX11_plan 248 = .ok (.goto 6, 3) := wn_at gdX11_plan_225 9 rfl
theorem gdX11_plan_251 : ∀ e ∈ ([(251, .iload 9, 2), (253, .i2l, 1), (254, .lreturn, 1)] : List (Nat × Instr × Nat)), decode cX11_plan e.1 = .ok e.2 := wn_all _ 251 (by decide +kernel)
theorem dX11_plan_251 : decode cX11_plan 251 = .ok (.iload 9, 2) := wn_at gdX11_plan_251 0 rfl
theorem dX11_plan_253 : decode cX11_plan 253 = .ok (.i2l, 1) := wn_at gdX11_plan_251 1 rfl
theorem dX11_plan_254 : decode cX11_plan 254 = .ok (.lreturn, 1) := wn_at gdX11_plan_251 2 rfl
theorem gdX11_even_0 : ∀ e ∈ ([(0, .aload_n 0, 1), (1, .iload_n 1, 1), (2, .invokevirtual 316, 3), (5, .ifCond .eq 44, 3), (8, .aload_n 0, 1), (9, .iload_n 2, 1), (10, .invokevirtual 316, 3), (13, .ifCond .eq 36, 3), (16, .iload_n 1, 1), (17, .iload_n 2, 1)] : List (Nat × Instr × Nat)), decode cX11_even e.1 = .ok e.2 := wn_all _ 0 (by decide +kernel)
theorem dX11_even_0 : decode cX11_even 0 = .ok (.aload_n 0, 1) := wn_at gdX11_even_0 0 rfl
theorem dX11_even_1 : decode cX11_even 1 = .ok (.iload_n 1, 1) := wn_at gdX11_even_0 1 rfl
theorem dX11_even_2 : decode cX11_even 2 = .ok (.invokevirtual 316, 3) := wn_at gdX11_even_0 2 rfl
theorem dX11_even_5 : decode cX11_even 5 = .ok (.ifCond .eq 44, 3) := wn_at gdX11_even_0 3 rfl
theorem dX11_even_8 : decode cX11_even 8 = .ok (.aload_n 0, 1) := wn_at gdX11_even_0 4 rfl
theorem dX11_even_9 : decode cX11_even 9 = .ok (.iload_n 2, 1) := wn_at gdX11_even_0 5 rfl
theorem dX11_even_10 : decode cX11_even 10 = .ok (.invokevirtual 316, 3) := wn_at gdX11_even_0 6 rfl
theorem dX11_even_13 : decode cX11_even 13 = .ok (.ifCond .eq 36, 3) := wn_at gdX11_even_0 7 rfl
theorem dX11_even_16 : decode cX11_even 16 = .ok (.iload_n 1, 1) := wn_at gdX11_even_0 8 rfl
theorem dX11_even_17 : decode cX11_even 17 = .ok (.iload_n 2, 1) := wn_at gdX11_even_0 9 rfl
theorem gdX11_even_18 : ∀ e ∈ ([(18, .if_icmp .eq 31, 3), (21, .aload_n 0, 1), (22, .iload_n 3, 1), (23, .invokevirtual 299, 3), (26, .ifCond .eq 23, 3), (29, .aload_n 0, 1), (30, .iload 4, 2), (32, .invokevirtual 299, 3), (35, .ifCond .eq 14, 3), (38, .iload 5, 2)] : List (Nat × Instr × Nat)), decode cX11_even e.1 = .ok e.2 := wn_all _ 18 (by decide +kernel)
theorem dX11_even_18 : decode cX11_even 18 = .ok (.if_icmp .eq 31, 3) := wn_at gdX11_even_18 0 rfl
theorem dX11_even_21 : decode cX11_even 21 = .ok (.aload_n 0, 1) := wn_at gdX11_even_18 1 rfl
theorem dX11_even_22 : decode cX11_even 22 = .ok (.iload_n 3, 1) := wn_at gdX11_even_18 2 rfl
theorem dX11_even_23 : decode cX11_even 23 = .ok (.invokevirtual 299, 3) := wn_at gdX11_even_18 3 rfl
theorem dX11_even_26 : decode cX11_even 26 = .ok (.ifCond .eq 23, 3) := wn_at gdX11_even_18 4 rfl
theorem dX11_even_29 : decode cX11_even 29 = .ok (.aload_n 0, 1) := wn_at gdX11_even_18 5 rfl
theorem dX11_even_30 : decode cX11_even 30 = .ok (.iload 4, 2) := wn_at gdX11_even_18 6 rfl
theorem dX11_even_32 : decode cX11_even 32 = .ok (.invokevirtual 299, 3) := wn_at gdX11_even_18 7 rfl
theorem dX11_even_35 : decode cX11_even 35 = .ok (.ifCond .eq 14, 3) := wn_at gdX11_even_18 8 rfl
theorem dX11_even_38 : decode cX11_even 38 = .ok (.iload 5, 2) := wn_at gdX11_even_18 9 rfl
theorem gdX11_even_40 : ∀ e ∈ ([(40, .i2l, 1), (41, .lconst 0, 1), (42, .lconst 1, 1), (43, .invokestatic 131, 3), (46, .ifCond .ne 7, 3), (49, .ldc2_w 321, 3), (52, .lreturn, 1), (53, .aload_n 0, 1), (54, .getfield 48, 3), (57, .iload_n 2, 1)] : List (Nat × Instr × Nat)), decode cX11_even e.1 = .ok e.2 := wn_all _ 40 (by decide +kernel)
theorem dX11_even_40 : decode cX11_even 40 = .ok (.i2l, 1) := wn_at gdX11_even_40 0 rfl
theorem dX11_even_41 : decode cX11_even 41 = .ok (.lconst 0, 1) := wn_at gdX11_even_40 1 rfl
theorem dX11_even_42 : decode cX11_even 42 = .ok (.lconst 1, 1) := wn_at gdX11_even_40 2 rfl
theorem dX11_even_43 : decode cX11_even 43 = .ok (.invokestatic 131, 3) := wn_at gdX11_even_40 3 rfl
theorem dX11_even_46 : decode cX11_even 46 = .ok (.ifCond .ne 7, 3) := wn_at gdX11_even_40 4 rfl
theorem dX11_even_49 : decode cX11_even 49 = .ok (.ldc2_w 321, 3) := wn_at gdX11_even_40 5 rfl
theorem dX11_even_52 : decode cX11_even 52 = .ok (.lreturn, 1) := wn_at gdX11_even_40 6 rfl
theorem dX11_even_53 : decode cX11_even 53 = .ok (.aload_n 0, 1) := wn_at gdX11_even_40 7 rfl
theorem dX11_even_54 : decode cX11_even 54 = .ok (.getfield 48, 3) := wn_at gdX11_even_40 8 rfl
theorem dX11_even_57 : decode cX11_even 57 = .ok (.iload_n 2, 1) := wn_at gdX11_even_40 9 rfl
theorem gdX11_even_58 : ∀ e ∈ ([(58, .laload, 1), (59, .aload_n 0, 1), (60, .getfield 48, 3), (63, .iload_n 1, 1), (64, .laload, 1), (65, .lsub, 1), (66, .lstore 6, 2), (68, .aload_n 0, 1), (69, .iload_n 3, 1), (70, .invokevirtual 333, 3)] : List (Nat × Instr × Nat)), decode cX11_even e.1 = .ok e.2 := wn_all _ 58 (by decide +kernel)
theorem dX11_even_58 : decode cX11_even 58 = .ok (.laload, 1) := wn_at gdX11_even_58 0 rfl
theorem dX11_even_59 : decode cX11_even 59 = .ok (.aload_n 0, 1) := wn_at gdX11_even_58 1 rfl
theorem dX11_even_60 : decode cX11_even 60 = .ok (.getfield 48, 3) := wn_at gdX11_even_58 2 rfl
theorem dX11_even_63 : decode cX11_even 63 = .ok (.iload_n 1, 1) := wn_at gdX11_even_58 3 rfl
theorem dX11_even_64 : decode cX11_even 64 = .ok (.laload, 1) := wn_at gdX11_even_58 4 rfl
theorem dX11_even_65 : decode cX11_even 65 = .ok (.lsub, 1) := wn_at gdX11_even_58 5 rfl
theorem dX11_even_66 : decode cX11_even 66 = .ok (.lstore 6, 2) := wn_at gdX11_even_58 6 rfl
theorem dX11_even_68 : decode cX11_even 68 = .ok (.aload_n 0, 1) := wn_at gdX11_even_58 7 rfl
theorem dX11_even_69 : decode cX11_even 69 = .ok (.iload_n 3, 1) := wn_at gdX11_even_58 8 rfl
theorem dX11_even_70 : decode cX11_even 70 = .ok (.invokevirtual 333, 3) := wn_at gdX11_even_58 9 rfl
theorem gdX11_even_73 : ∀ e ∈ ([(73, .aload_n 0, 1), (74, .iload 4, 2), (76, .invokevirtual 333, 3), (79, .lsub, 1), (80, .lstore 8, 2), (82, .lload 6, 2), (84, .lconst 0, 1), (85, .lcmp, 1), (86, .ifCond .ne 7, 3), (89, .iload 5, 2)] : List (Nat × Instr × Nat)), decode cX11_even e.1 = .ok e.2 := wn_all _ 73 (by decide +kernel)
theorem dX11_even_73 : decode cX11_even 73 = .ok (.aload_n 0, 1) := wn_at gdX11_even_73 0 rfl
theorem dX11_even_74 : decode cX11_even 74 = .ok (.iload 4, 2) := wn_at gdX11_even_73 1 rfl
theorem dX11_even_76 : decode cX11_even 76 = .ok (.invokevirtual 333, 3) := wn_at gdX11_even_73 2 rfl
theorem dX11_even_79 : decode cX11_even 79 = .ok (.lsub, 1) := wn_at gdX11_even_73 3 rfl
theorem dX11_even_80 : decode cX11_even 80 = .ok (.lstore 8, 2) := wn_at gdX11_even_73 4 rfl
theorem dX11_even_82 : decode cX11_even 82 = .ok (.lload 6, 2) := wn_at gdX11_even_73 5 rfl
theorem dX11_even_84 : decode cX11_even 84 = .ok (.lconst 0, 1) := wn_at gdX11_even_73 6 rfl
theorem dX11_even_85 : decode cX11_even 85 = .ok (.lcmp, 1) := wn_at gdX11_even_73 7 rfl
theorem dX11_even_86 : decode cX11_even 86 = .ok (.ifCond .ne 7, 3) := wn_at gdX11_even_73 8 rfl
theorem dX11_even_89 : decode cX11_even 89 = .ok (.iload 5, 2) := wn_at gdX11_even_73 9 rfl
theorem gdX11_even_91 : ∀ e ∈ ([(91, .i2l, 1), (92, .lreturn, 1), (93, .lload 8, 2), (95, .lconst 0, 1), (96, .lcmp, 1), (97, .ifCond .eq 30, 3), (100, .lload 6, 2), (102, .lconst 0, 1), (103, .lcmp, 1), (104, .ifCond .le 7, 3)] : List (Nat × Instr × Nat)), decode cX11_even e.1 = .ok e.2 := wn_all _ 91 (by decide +kernel)
theorem dX11_even_91 : decode cX11_even 91 = .ok (.i2l, 1) := wn_at gdX11_even_91 0 rfl
theorem dX11_even_92 : decode cX11_even 92 = .ok (.lreturn, 1) := wn_at gdX11_even_91 1 rfl
theorem dX11_even_93 : decode cX11_even 93 = .ok (.lload 8, 2) := wn_at gdX11_even_91 2 rfl
theorem dX11_even_95 : decode cX11_even 95 = .ok (.lconst 0, 1) := wn_at gdX11_even_91 3 rfl
theorem dX11_even_96 : decode cX11_even 96 = .ok (.lcmp, 1) := wn_at gdX11_even_91 4 rfl
theorem dX11_even_97 : decode cX11_even 97 = .ok (.ifCond .eq 30, 3) := wn_at gdX11_even_91 5 rfl
theorem dX11_even_100 : decode cX11_even 100 = .ok (.lload 6, 2) := wn_at gdX11_even_91 6 rfl
theorem dX11_even_102 : decode cX11_even 102 = .ok (.lconst 0, 1) := wn_at gdX11_even_91 7 rfl
theorem dX11_even_103 : decode cX11_even 103 = .ok (.lcmp, 1) := wn_at gdX11_even_91 8 rfl
theorem dX11_even_104 : decode cX11_even 104 = .ok (.ifCond .le 7, 3) := wn_at gdX11_even_91 9 rfl
theorem gdX11_even_107 : ∀ e ∈ ([(107, .iconst 1, 1), (108, .goto 4, 3), (111, .iconst 0, 1), (112, .lload 8, 2), (114, .lconst 0, 1), (115, .lcmp, 1), (116, .ifCond .le 7, 3), (119, .iconst 1, 1), (120, .goto 4, 3), (123, .iconst 0, 1)] : List (Nat × Instr × Nat)), decode cX11_even e.1 = .ok e.2 := wn_all _ 107 (by decide +kernel)
theorem dX11_even_107 : decode cX11_even 107 = .ok (.iconst 1, 1) := wn_at gdX11_even_107 0 rfl
theorem dX11_even_108 : decode cX11_even 108 = .ok (.goto 4, 3) := wn_at gdX11_even_107 1 rfl
theorem dX11_even_111 : decode cX11_even 111 = .ok (.iconst 0, 1) := wn_at gdX11_even_107 2 rfl
theorem dX11_even_112 : decode cX11_even 112 = .ok (.lload 8, 2) := wn_at gdX11_even_107 3 rfl
theorem dX11_even_114 : decode cX11_even 114 = .ok (.lconst 0, 1) := wn_at gdX11_even_107 4 rfl
theorem dX11_even_115 : decode cX11_even 115 = .ok (.lcmp, 1) := wn_at gdX11_even_107 5 rfl
theorem dX11_even_116 : decode cX11_even 116 = .ok (.ifCond .le 7, 3) := wn_at gdX11_even_107 6 rfl
theorem dX11_even_119 : decode cX11_even 119 = .ok (.iconst 1, 1) := wn_at gdX11_even_107 7 rfl
theorem dX11_even_120 : decode cX11_even 120 = .ok (.goto 4, 3) := wn_at gdX11_even_107 8 rfl
theorem dX11_even_123 : decode cX11_even 123 = .ok (.iconst 0, 1) := wn_at gdX11_even_107 9 rfl
theorem gdX11_even_124 : ∀ e ∈ ([(124, .if_icmp .eq 7, 3), (127, .ldc2_w 360, 3), (130, .lreturn, 1), (131, .lload 6, 2), (133, .lload 8, 2), (135, .invokestatic 88, 3), (138, .lstore 10, 2), (140, .iload 5, 2), (142, .ifCond .ne 8, 3), (145, .lload 6, 2)] : List (Nat × Instr × Nat)), decode cX11_even e.1 = .ok e.2 := wn_all _ 124 (by decide +kernel)
theorem dX11_even_124 : decode cX11_even 124 = .ok (.if_icmp .eq 7, 3) := wn_at gdX11_even_124 0 rfl
theorem dX11_even_127 : decode cX11_even 127 = .ok (.ldc2_w 360, 3) := wn_at gdX11_even_124 1 rfl
theorem dX11_even_130 : decode cX11_even 130 = .ok (.lreturn, 1) := wn_at gdX11_even_124 2 rfl
theorem dX11_even_131 : decode cX11_even 131 = .ok (.lload 6, 2) := wn_at gdX11_even_124 3 rfl
theorem dX11_even_133 : decode cX11_even 133 = .ok (.lload 8, 2) := wn_at gdX11_even_124 4 rfl
theorem dX11_even_135 : decode cX11_even 135 = .ok (.invokestatic 88, 3) := wn_at gdX11_even_124 5 rfl
theorem dX11_even_138 : decode cX11_even 138 = .ok (.lstore 10, 2) := wn_at gdX11_even_124 6 rfl
theorem dX11_even_140 : decode cX11_even 140 = .ok (.iload 5, 2) := wn_at gdX11_even_124 7 rfl
theorem dX11_even_142 : decode cX11_even 142 = .ok (.ifCond .ne 8, 3) := wn_at gdX11_even_124 8 rfl
theorem dX11_even_145 : decode cX11_even 145 = .ok (.lload 6, 2) := wn_at gdX11_even_124 9 rfl
theorem gdX11_even_147 : ∀ e ∈ ([(147, .goto 5, 3), (150, .lload 8, 2), (152, .lload 10, 2), (154, .ldiv, 1), (155, .lstore 12, 2), (157, .lload 12, 2), (159, .lconst 0, 1), (160, .lcmp, 1), (161, .ifCond .ge 9, 3), (164, .lload 12, 2)] : List (Nat × Instr × Nat)), decode cX11_even e.1 = .ok e.2 := wn_all _ 147 (by decide +kernel)
theorem dX11_even_147 : decode cX11_even 147 = .ok (.goto 5, 3) := wn_at gdX11_even_147 0 rfl
theorem dX11_even_150 : decode cX11_even 150 = .ok (.lload 8, 2) := wn_at gdX11_even_147 1 rfl
theorem dX11_even_152 : decode cX11_even 152 = .ok (.lload 10, 2) := wn_at gdX11_even_147 2 rfl
theorem dX11_even_154 : decode cX11_even 154 = .ok (.ldiv, 1) := wn_at gdX11_even_147 3 rfl
theorem dX11_even_155 : decode cX11_even 155 = .ok (.lstore 12, 2) := wn_at gdX11_even_147 4 rfl
theorem dX11_even_157 : decode cX11_even 157 = .ok (.lload 12, 2) := wn_at gdX11_even_147 5 rfl
theorem dX11_even_159 : decode cX11_even 159 = .ok (.lconst 0, 1) := wn_at gdX11_even_147 6 rfl
theorem dX11_even_160 : decode cX11_even 160 = .ok (.lcmp, 1) := wn_at gdX11_even_147 7 rfl
theorem dX11_even_161 : decode cX11_even 161 = .ok (.ifCond .ge 9, 3) := wn_at gdX11_even_147 8 rfl
theorem dX11_even_164 : decode cX11_even 164 = .ok (.lload 12, 2) := wn_at gdX11_even_147 9 rfl
theorem gdX11_even_166 : ∀ e ∈ ([(166, .lneg, 1), (167, .goto 5, 3), (170, .lload 12, 2), (172, .lreturn, 1)] : List (Nat × Instr × Nat)), decode cX11_even e.1 = .ok e.2 := wn_all _ 166 (by decide +kernel)
theorem dX11_even_166 : decode cX11_even 166 = .ok (.lneg, 1) := wn_at gdX11_even_166 0 rfl
theorem dX11_even_167 : decode cX11_even 167 = .ok (.goto 5, 3) := wn_at gdX11_even_166 1 rfl
theorem dX11_even_170 : decode cX11_even 170 = .ok (.lload 12, 2) := wn_at gdX11_even_166 2 rfl
theorem dX11_even_172 : decode cX11_even 172 = .ok (.lreturn, 1) := wn_at gdX11_even_166 3 rfl
theorem gdX11_waiting_0 : ∀ e ∈ ([(0, .aload_n 0, 1), (1, .iload_n 1, 1), (2, .invokevirtual 316, 3), (5, .ifCond .eq 24, 3), (8, .aload_n 0, 1), (9, .iload_n 1, 1), (10, .iconst 0, 1), (11, .invokevirtual 296, 3), (14, .ifCond .lt 15, 3), (17, .iload_n 2, 1)] : List (Nat × Instr × Nat)), decode cX11_waiting e.1 = .ok e.2 := wn_all _ 0 (by decide +kernel)
theorem dX11_waiting_0 : decode cX11_waiting 0 = .ok (.aload_n 0, 1) := wn_at gdX11_waiting_0 0 rfl
theorem dX11_waiting_1 : decode cX11_waiting 1 = .ok (.iload_n 1, 1) := wn_at gdX11_waiting_0 1 rfl
theorem dX11_waiting_2 : decode cX11_waiting 2 = .ok (.invokevirtual 316, 3) := wn_at gdX11_waiting_0 2 rfl
theorem dX11_waiting_5 : decode cX11_waiting 5 = .ok (.ifCond .eq 24, 3) := wn_at gdX11_waiting_0 3 rfl
theorem dX11_waiting_8 : decode cX11_waiting 8 = .ok (.aload_n 0, 1) := wn_at gdX11_waiting_0 4 rfl
theorem dX11_waiting_9 : decode cX11_waiting 9 = .ok (.iload_n 1, 1) := wn_at gdX11_waiting_0 5 rfl
theorem dX11_waiting_10 : decode cX11_waiting 10 = .ok (.iconst 0, 1) := wn_at gdX11_waiting_0 6 rfl
theorem dX11_waiting_11 : decode cX11_waiting 11 = .ok (.invokevirtual 296, 3) := wn_at gdX11_waiting_0 7 rfl
theorem dX11_waiting_14 : decode cX11_waiting 14 = .ok (.ifCond .lt 15, 3) := wn_at gdX11_waiting_0 8 rfl
theorem dX11_waiting_17 : decode cX11_waiting 17 = .ok (.iload_n 2, 1) := wn_at gdX11_waiting_0 9 rfl
theorem gdX11_waiting_18 : ∀ e ∈ ([(18, .i2l, 1), (19, .lconst 0, 1), (20, .ldc2_w 377, 3), (23, .invokestatic 131, 3), (26, .ifCond .ne 5, 3), (29, .iconst (-1), 1), (30, .ireturn, 1), (31, .iconst (-1), 1), (32, .istore 4, 2), (34, .ldc2_w 321, 3)] : List (Nat × Instr × Nat)), decode cX11_waiting e.1 = .ok e.2 := wn_all _ 18 (by decide +kernel)
theorem dX11_waiting_18 : decode cX11_waiting 18 = .ok (.i2l, 1) := wn_at gdX11_waiting_18 0 rfl
theorem dX11_waiting_19 : decode cX11_waiting 19 = .ok (.lconst 0, 1) := wn_at gdX11_waiting_18 1 rfl
theorem dX11_waiting_20 : decode cX11_waiting 20 = .ok (.ldc2_w 377, 3) := wn_at gdX11_waiting_18 2 rfl
theorem dX11_waiting_23 : decode cX11_waiting 23 = .ok (.invokestatic 131, 3) := wn_at gdX11_waiting_18 3 rfl
theorem dX11_waiting_26 : decode cX11_waiting 26 = .ok (.ifCond .ne 5, 3) := wn_at gdX11_waiting_18 4 rfl
theorem dX11_waiting_29 : decode cX11_waiting 29 = .ok (.iconst (-1), 1) := wn_at gdX11_waiting_18 5 rfl
theorem dX11_waiting_30 : decode cX11_waiting 30 = .ok (.ireturn, 1) := wn_at gdX11_waiting_18 6 rfl
theorem dX11_waiting_31 : decode cX11_waiting 31 = .ok (.iconst (-1), 1) := wn_at gdX11_waiting_18 7 rfl
theorem dX11_waiting_32 : decode cX11_waiting 32 = .ok (.istore 4, 2) := wn_at gdX11_waiting_18 8 rfl
theorem dX11_waiting_34 : decode cX11_waiting 34 = .ok (.ldc2_w 321, 3) := wn_at gdX11_waiting_18 9 rfl
theorem gdX11_waiting_37 : ∀ e ∈ ([(37, .lstore 5, 2), (39, .iconst 0, 1), (40, .istore 7, 2), (42, .iload 7, 2), (44, .aload_n 0, 1), (45, .getfield 45, 3), (48, .iconst 0, 1), (49, .iaload, 1), (50, .if_icmp .ge 153, 3), (53, .iconst 0, 1)] : List (Nat × Instr × Nat)), decode cX11_waiting e.1 = .ok e.2 := wn_all _ 37 (by decide +kernel)
theorem dX11_waiting_37 : decode cX11_waiting 37 = .ok (.lstore 5, 2) := wn_at gdX11_waiting_37 0 rfl
theorem dX11_waiting_39 : decode cX11_waiting 39 = .ok (.iconst 0, 1) := wn_at gdX11_waiting_37 1 rfl
theorem dX11_waiting_40 : decode cX11_waiting 40 = .ok (.istore 7, 2) := wn_at gdX11_waiting_37 2 rfl
theorem dX11_waiting_42 : decode cX11_waiting 42 = .ok (.iload 7, 2) := wn_at gdX11_waiting_37 3 rfl
theorem dX11_waiting_44 : decode cX11_waiting 44 = .ok (.aload_n 0, 1) := wn_at gdX11_waiting_37 4 rfl
theorem dX11_waiting_45 : decode cX11_waiting 45 = .ok (.getfield 45, 3) := wn_at gdX11_waiting_37 5 rfl
theorem dX11_waiting_48 : decode cX11_waiting 48 = .ok (.iconst 0, 1) := wn_at gdX11_waiting_37 6 rfl
theorem dX11_waiting_49 : decode cX11_waiting 49 = .ok (.iaload, 1) := wn_at gdX11_waiting_37 7 rfl
theorem dX11_waiting_50 : decode cX11_waiting 50 = .ok (.if_icmp .ge 153, 3) := wn_at gdX11_waiting_37 8 rfl
theorem dX11_waiting_53 : decode cX11_waiting 53 = .ok (.iconst 0, 1) := wn_at gdX11_waiting_37 9 rfl
theorem gdX11_waiting_54 : ∀ e ∈ ([(54, .istore 8, 2), (56, .iload 8, 2), (58, .bipush 10, 2), (60, .if_icmp .ge 35, 3), (63, .aload_n 0, 1), (64, .getfield 60, 3), (67, .bipush 10, 2), (69, .iload_n 2, 1), (70, .imul, 1), (71, .iload 8, 2)] : List (Nat × Instr × Nat)), decode cX11_waiting e.1 = .ok e.2 := wn_all _ 54 (by decide +kernel)
theorem dX11_waiting_54 : decode cX11_waiting 54 = .ok (.istore 8, 2) := wn_at gdX11_waiting_54 0 rfl
theorem dX11_waiting_56 : decode cX11_waiting 56 = .ok (.iload 8, 2) := wn_at gdX11_waiting_54 1 rfl
theorem dX11_waiting_58 : decode cX11_waiting 58 = .ok (.bipush 10, 2) := wn_at gdX11_waiting_54 2 rfl
theorem dX11_waiting_60 : decode cX11_waiting 60 = .ok (.if_icmp .ge 35, 3) := wn_at gdX11_waiting_54 3 rfl
theorem dX11_waiting_63 : decode cX11_waiting 63 = .ok (.aload_n 0, 1) := wn_at gdX11_waiting_54 4 rfl
theorem dX11_waiting_64 : decode cX11_waiting 64 = .ok (.getfield 60, 3) := wn_at gdX11_waiting_54 5 rfl
theorem dX11_waiting_67 : decode cX11_waiting 67 = .ok (.bipush 10, 2) := wn_at gdX11_waiting_54 6 rfl
theorem dX11_waiting_69 : decode cX11_waiting 69 = .ok (.iload_n 2, 1) := wn_at gdX11_waiting_54 7 rfl
theorem dX11_waiting_70 : decode cX11_waiting 70 = .ok (.imul, 1) := wn_at gdX11_waiting_54 8 rfl
theorem dX11_waiting_71 : decode cX11_waiting 71 = .ok (.iload 8, 2) := wn_at gdX11_waiting_54 9 rfl
theorem gdX11_waiting_73 : ∀ e ∈ ([(73, .iadd, 1), (74, .iload 8, 2), (76, .iload 7, 2), (78, .if_icmp .ne 7, 3), (81, .lconst 0, 1), (82, .goto 6, 3), (85, .ldc2_w 321, 3), (88, .lastore, 1), (89, .iinc 8 1, 3), (92, .goto (-36), 3)] : List (Nat × Instr × Nat)), decode cX11_waiting e.1 = .ok e.2 := wn_all _ 73 (by decide +kernel)
theorem dX11_waiting_73 : decode cX11_waiting 73 = .ok (.iadd, 1) := wn_at gdX11_waiting_73 0 rfl
theorem dX11_waiting_74 : decode cX11_waiting 74 = .ok (.iload 8, 2) := wn_at gdX11_waiting_73 1 rfl
theorem dX11_waiting_76 : decode cX11_waiting 76 = .ok (.iload 7, 2) := wn_at gdX11_waiting_73 2 rfl
theorem dX11_waiting_78 : decode cX11_waiting 78 = .ok (.if_icmp .ne 7, 3) := wn_at gdX11_waiting_73 3 rfl
theorem dX11_waiting_81 : decode cX11_waiting 81 = .ok (.lconst 0, 1) := wn_at gdX11_waiting_73 4 rfl
theorem dX11_waiting_82 : decode cX11_waiting 82 = .ok (.goto 6, 3) := wn_at gdX11_waiting_73 5 rfl
theorem dX11_waiting_85 : decode cX11_waiting 85 = .ok (.ldc2_w 321, 3) := wn_at gdX11_waiting_73 6 rfl
theorem dX11_waiting_88 : decode cX11_waiting 88 = .ok (.lastore, 1) := wn_at gdX11_waiting_73 7 rfl
theorem dX11_waiting_89 : decode cX11_waiting 89 = .ok (.iinc 8 1, 3) := wn_at gdX11_waiting_73 8 rfl
theorem dX11_waiting_92 : decode cX11_waiting 92 = .ok (.goto (-36), 3) := wn_at gdX11_waiting_73 9 rfl
theorem gdX11_waiting_95 : ∀ e ∈ ([(95, .iload_n 2, 1), (96, .iconst 1, 1), (97, .isub, 1), (98, .istore 8, 2), (100, .iload 8, 2), (102, .ifCond .lt 52, 3), (105, .iconst 0, 1), (106, .istore 9, 2), (108, .iload 9, 2), (110, .aload_n 0, 1)] : List (Nat × Instr × Nat)), decode cX11_waiting e.1 = .ok e.2 := wn_all _ 95 (by decide +kernel)
theorem dX11_waiting_95 : decode cX11_waiting 95 = .ok (.iload_n 2, 1) := wn_at gdX11_waiting_95 0 rfl
theorem dX11_waiting_96 : decode cX11_waiting 96 = .ok (.iconst 1, 1) := wn_at gdX11_waiting_95 1 rfl
theorem dX11_waiting_97 : decode cX11_waiting 97 = .ok (.isub, 1) := wn_at gdX11_waiting_95 2 rfl
theorem dX11_waiting_98 : decode cX11_waiting 98 = .ok (.istore 8, 2) := wn_at gdX11_waiting_95 3 rfl
theorem dX11_waiting_100 : decode cX11_waiting 100 = .ok (.iload 8, 2) := wn_at gdX11_waiting_95 4 rfl
theorem dX11_waiting_102 : decode cX11_waiting 102 = .ok (.ifCond .lt 52, 3) := wn_at gdX11_waiting_95 5 rfl
theorem dX11_waiting_105 : decode cX11_waiting 105 = .ok (.iconst 0, 1) := wn_at gdX11_waiting_95 6 rfl
theorem dX11_waiting_106 : decode cX11_waiting 106 = .ok (.istore 9, 2) := wn_at gdX11_waiting_95 7 rfl
theorem dX11_waiting_108 : decode cX11_waiting 108 = .ok (.iload 9, 2) := wn_at gdX11_waiting_95 8 rfl
theorem dX11_waiting_110 : decode cX11_waiting 110 = .ok (.aload_n 0, 1) := wn_at gdX11_waiting_95 9 rfl
theorem gdX11_waiting_111 : ∀ e ∈ ([(111, .getfield 45, 3), (114, .iconst 0, 1), (115, .iaload, 1), (116, .if_icmp .ge 32, 3), (119, .aload_n 0, 1), (120, .getfield 60, 3), (123, .bipush 10, 2), (125, .iload 8, 2), (127, .imul, 1), (128, .iload 9, 2)] : List (Nat × Instr × Nat)), decode cX11_waiting e.1 = .ok e.2 := wn_all _ 111 (by decide +kernel)
theorem dX11_waiting_111 : decode cX11_waiting 111 = .ok (.getfield 45, 3) := wn_at gdX11_waiting_111 0 rfl
theorem dX11_waiting_114 : decode cX11_waiting 114 = .ok (.iconst 0, 1) := wn_at gdX11_waiting_111 1 rfl
theorem dX11_waiting_115 : decode cX11_waiting 115 = .ok (.iaload, 1) := wn_at gdX11_waiting_111 2 rfl
theorem dX11_waiting_116 : decode cX11_waiting 116 = .ok (.if_icmp .ge 32, 3) := wn_at gdX11_waiting_111 3 rfl
theorem dX11_waiting_119 : decode cX11_waiting 119 = .ok (.aload_n 0, 1) := wn_at gdX11_waiting_111 4 rfl
theorem dX11_waiting_120 : decode cX11_waiting 120 = .ok (.getfield 60, 3) := wn_at gdX11_waiting_111 5 rfl
theorem dX11_waiting_123 : decode cX11_waiting 123 = .ok (.bipush 10, 2) := wn_at gdX11_waiting_111 6 rfl
theorem dX11_waiting_125 : decode cX11_waiting 125 = .ok (.iload 8, 2) := wn_at gdX11_waiting_111 7 rfl
theorem dX11_waiting_127 : decode cX11_waiting 127 = .ok (.imul, 1) := wn_at gdX11_waiting_111 8 rfl
theorem dX11_waiting_128 : decode cX11_waiting 128 = .ok (.iload 9, 2) := wn_at gdX11_waiting_111 9 rfl
theorem gdX11_waiting_130 : ∀ e ∈ ([(130, .iadd, 1), (131, .aload_n 0, 1), (132, .iload 9, 2), (134, .iload 8, 2), (136, .iload_n 2, 1), (137, .iload_n 3, 1), (138, .invokevirtual 379, 3), (141, .lastore, 1), (142, .iinc 9 1, 3), (145, .goto (-37), 3)] : List (Nat × Instr × Nat)), decode cX11_waiting e.1 = .ok e.2 := wn_all _ 130 (by decide +kernel)
theorem dX11_waiting_130 : decode cX11_waiting 130 = .ok (.iadd, 1) := wn_at gdX11_waiting_130 0 rfl
theorem dX11_waiting_131 : decode cX11_waiting 131 = .ok (.aload_n 0, 1) := wn_at gdX11_waiting_130 1 rfl
theorem dX11_waiting_132 : decode cX11_waiting 132 = .ok (.iload 9, 2) := wn_at gdX11_waiting_130 2 rfl
theorem dX11_waiting_134 : decode cX11_waiting 134 = .ok (.iload 8, 2) := wn_at gdX11_waiting_130 3 rfl
theorem dX11_waiting_136 : decode cX11_waiting 136 = .ok (.iload_n 2, 1) := wn_at gdX11_waiting_130 4 rfl
theorem dX11_waiting_137 : decode cX11_waiting 137 = .ok (.iload_n 3, 1) := wn_at gdX11_waiting_130 5 rfl
theorem dX11_waiting_138 : decode cX11_waiting 138 = .ok (.invokevirtual 379, 3) := wn_at gdX11_waiting_130 6 rfl
theorem dX11_waiting_141 : decode cX11_waiting 141 = .ok (.lastore, 1) := wn_at gdX11_waiting_130 7 rfl
theorem dX11_waiting_142 : decode cX11_waiting 142 = .ok (.iinc 9 1, 3) := wn_at gdX11_waiting_130 8 rfl
theorem dX11_waiting_145 : decode cX11_waiting 145 = .ok (.goto (-37), 3) := wn_at gdX11_waiting_130 9 rfl
theorem gdX11_waiting_148 : ∀ e ∈ ([(148, .iinc 8 (-1), 3), (151, .goto (-51), 3), (154, .aload_n 0, 1), (155, .getfield 60, 3), (158, .aload_n 0, 1), (159, .iload_n 1, 1), (160, .iconst 0, 1), (161, .invokevirtual 296, 3), (164, .laload, 1), (165, .lstore 8, 2)] : List (Nat × Instr × Nat)), decode cX11_waiting e.1 = .ok e.2 := wn_all _ 148 (by decide +kernel)
theorem dX11_waiting_148 : decode cX11_waiting 148 = .ok (.iinc 8 (-1), 3) := wn_at gdX11_waiting_148 0 rfl
theorem dX11_waiting_151 : decode cX11_waiting 151 = .ok (.goto (-51), 3) := wn_at gdX11_waiting_148 1 rfl
theorem dX11_waiting_154 : decode cX11_waiting 154 = .ok (.aload_n 0, 1) := wn_at gdX11_waiting_148 2 rfl
theorem dX11_waiting_155 : decode cX11_waiting 155 = .ok (.getfield 60, 3) := wn_at gdX11_waiting_148 3 rfl
theorem dX11_waiting_158 : decode cX11_waiting 158 = .ok (.aload_n 0, 1) := wn_at gdX11_waiting_148 4 rfl
theorem dX11_waiting_159 : decode cX11_waiting 159 = .ok (.iload_n 1, 1) := wn_at gdX11_waiting_148 5 rfl
theorem dX11_waiting_160 : decode cX11_waiting 160 = .ok (.iconst 0, 1) := wn_at gdX11_waiting_148 6 rfl
theorem dX11_waiting_161 : decode cX11_waiting 161 = .ok (.invokevirtual 296, 3) := wn_at gdX11_waiting_148 7 rfl
theorem dX11_waiting_164 : decode cX11_waiting 164 = .ok (.laload, 1) := wn_at gdX11_waiting_148 8 rfl
theorem dX11_waiting_165 : decode cX11_waiting 165 = .ok (.lstore 8, 2) := wn_at gdX11_waiting_148 9 rfl
theorem gdX11_waiting_167 : ∀ e ∈ ([(167, .lload 8, 2), (169, .lconst 0, 1), (170, .lcmp, 1), (171, .ifCond .lt 26, 3), (174, .aload_n 0, 1), (175, .lload 8, 2), (177, .lload 5, 2), (179, .iload_n 3, 1), (180, .invokevirtual 373, 3), (183, .ifCond .ne 6, 3)] : List (Nat × Instr × Nat)), decode cX11_waiting e.1 = .ok e.2 := wn_all _ 167 (by decide +kernel)
theorem dX11_waiting_167 : decode cX11_waiting 167 = .ok (.lload 8, 2) := wn_at gdX11_waiting_167 0 rfl
theorem dX11_waiting_169 : decode cX11_waiting 169 = .ok (.lconst 0, 1) := wn_at gdX11_waiting_167 1 rfl
theorem dX11_waiting_170 : decode cX11_waiting 170 = .ok (.lcmp, 1) := wn_at gdX11_waiting_167 2 rfl
theorem dX11_waiting_171 : decode cX11_waiting 171 = .ok (.ifCond .lt 26, 3) := wn_at gdX11_waiting_167 3 rfl
theorem dX11_waiting_174 : decode cX11_waiting 174 = .ok (.aload_n 0, 1) := wn_at gdX11_waiting_167 4 rfl
theorem dX11_waiting_175 : decode cX11_waiting 175 = .ok (.lload 8, 2) := wn_at gdX11_waiting_167 5 rfl
theorem dX11_waiting_177 : decode cX11_waiting 177 = .ok (.lload 5, 2) := wn_at gdX11_waiting_167 6 rfl
theorem dX11_waiting_179 : decode cX11_waiting 179 = .ok (.iload_n 3, 1) := wn_at gdX11_waiting_167 7 rfl
theorem dX11_waiting_180 : decode cX11_waiting 180 = .ok (.invokevirtual 373, 3) := wn_at gdX11_waiting_167 8 rfl
theorem dX11_waiting_183 : decode cX11_waiting 183 = .ok (.ifCond .ne 6, 3) := wn_at gdX11_waiting_167 9 rfl
theorem gdX11_waiting_186 : ∀ e ∈ ([(186, .goto 11, 3), (189, .iload 7, 2), (191, .istore 4, 2), (193, .lload 8, 2), (195, .lstore 5, 2), (197, .iinc 7 1, 3), (200, .goto (-158), 3), (203, .iload 4, 2), (205, .ireturn, 1)] : List (Nat × Instr × Nat)), decode cX11_waiting e.1 = .ok e.2 := wn_all _ 186 (by decide +kernel)
theorem dX11_waiting_186 : decode cX11_waiting 186 = .ok (.goto 11, 3) := wn_at gdX11_waiting_186 0 rfl
theorem dX11_waiting_189 : decode cX11_waiting 189 = .ok (.iload 7, 2) := wn_at gdX11_waiting_186 1 rfl
theorem dX11_waiting_191 : decode cX11_waiting 191 = .ok (.istore 4, 2) := wn_at gdX11_waiting_186 2 rfl
theorem dX11_waiting_193 : decode cX11_waiting 193 = .ok (.lload 8, 2) := wn_at gdX11_waiting_186 3 rfl
theorem dX11_waiting_195 : decode cX11_waiting 195 = .ok (.lstore 5, 2) := wn_at gdX11_waiting_186 4 rfl
theorem dX11_waiting_197 : decode cX11_waiting 197 = .ok (.iinc 7 1, 3) := wn_at gdX11_waiting_186 5 rfl
theorem dX11_waiting_200 : decode cX11_waiting 200 = .ok (.goto (-158), 3) := wn_at gdX11_waiting_186 6 rfl
theorem dX11_waiting_203 : decode cX11_waiting 203 = .ok (.iload 4, 2) := wn_at gdX11_waiting_186 7 rfl
theorem dX11_waiting_205 : decode cX11_waiting 205 = .ok (.ireturn, 1) := wn_at gdX11_waiting_186 8 rfl
theorem gdX11_when_0 : ∀ e ∈ ([(0, .aload_n 0, 1), (1, .iload_n 1, 1), (2, .invokevirtual 316, 3), (5, .ifCond .eq 34, 3), (8, .aload_n 0, 1), (9, .iload_n 2, 1), (10, .invokevirtual 299, 3), (13, .ifCond .eq 26, 3), (16, .iload_n 3, 1), (17, .i2l, 1)] : List (Nat × Instr × Nat)), decode cX11_when e.1 = .ok e.2 := wn_all _ 0 (by decide +kernel)
theorem dX11_when_0 : decode cX11_when 0 = .ok (.aload_n 0, 1) := wn_at gdX11_when_0 0 rfl
theorem dX11_when_1 : decode cX11_when 1 = .ok (.iload_n 1, 1) := wn_at gdX11_when_0 1 rfl
theorem dX11_when_2 : decode cX11_when 2 = .ok (.invokevirtual 316, 3) := wn_at gdX11_when_0 2 rfl
theorem dX11_when_5 : decode cX11_when 5 = .ok (.ifCond .eq 34, 3) := wn_at gdX11_when_0 3 rfl
theorem dX11_when_8 : decode cX11_when 8 = .ok (.aload_n 0, 1) := wn_at gdX11_when_0 4 rfl
theorem dX11_when_9 : decode cX11_when 9 = .ok (.iload_n 2, 1) := wn_at gdX11_when_0 5 rfl
theorem dX11_when_10 : decode cX11_when 10 = .ok (.invokevirtual 299, 3) := wn_at gdX11_when_0 6 rfl
theorem dX11_when_13 : decode cX11_when 13 = .ok (.ifCond .eq 26, 3) := wn_at gdX11_when_0 7 rfl
theorem dX11_when_16 : decode cX11_when 16 = .ok (.iload_n 3, 1) := wn_at gdX11_when_0 8 rfl
theorem dX11_when_17 : decode cX11_when 17 = .ok (.i2l, 1) := wn_at gdX11_when_0 9 rfl
theorem gdX11_when_18 : ∀ e ∈ ([(18, .lconst 0, 1), (19, .ldc2_w 365, 3), (22, .invokestatic 131, 3), (25, .ifCond .eq 14, 3), (28, .iload 4, 2), (30, .i2l, 1), (31, .lconst 0, 1), (32, .lconst 1, 1), (33, .invokestatic 131, 3), (36, .ifCond .ne 7, 3)] : List (Nat × Instr × Nat)), decode cX11_when e.1 = .ok e.2 := wn_all _ 18 (by decide +kernel)
theorem dX11_when_18 : decode cX11_when 18 = .ok (.lconst 0, 1) := wn_at gdX11_when_18 0 rfl
theorem dX11_when_19 : decode cX11_when 19 = .ok (.ldc2_w 365, 3) := wn_at gdX11_when_18 1 rfl
theorem dX11_when_22 : decode cX11_when 22 = .ok (.invokestatic 131, 3) := wn_at gdX11_when_18 2 rfl
theorem dX11_when_25 : decode cX11_when 25 = .ok (.ifCond .eq 14, 3) := wn_at gdX11_when_18 3 rfl
theorem dX11_when_28 : decode cX11_when 28 = .ok (.iload 4, 2) := wn_at gdX11_when_18 4 rfl
theorem dX11_when_30 : decode cX11_when 30 = .ok (.i2l, 1) := wn_at gdX11_when_18 5 rfl
theorem dX11_when_31 : decode cX11_when 31 = .ok (.lconst 0, 1) := wn_at gdX11_when_18 6 rfl
theorem dX11_when_32 : decode cX11_when 32 = .ok (.lconst 1, 1) := wn_at gdX11_when_18 7 rfl
theorem dX11_when_33 : decode cX11_when 33 = .ok (.invokestatic 131, 3) := wn_at gdX11_when_18 8 rfl
theorem dX11_when_36 : decode cX11_when 36 = .ok (.ifCond .ne 7, 3) := wn_at gdX11_when_18 9 rfl
theorem gdX11_when_39 : ∀ e ∈ ([(39, .ldc2_w 321, 3), (42, .lreturn, 1), (43, .iload_n 3, 1), (44, .i2l, 1), (45, .ldc2_w 281, 3), (48, .lmul, 1), (49, .aload_n 0, 1), (50, .getfield 48, 3), (53, .iload_n 1, 1), (54, .laload, 1)] : List (Nat × Instr × Nat)), decode cX11_when e.1 = .ok e.2 := wn_all _ 39 (by decide +kernel)
theorem dX11_when_39 : decode cX11_when 39 = .ok (.ldc2_w 321, 3) := wn_at gdX11_when_39 0 rfl
theorem dX11_when_42 : decode cX11_when 42 = .ok (.lreturn, 1) := wn_at gdX11_when_39 1 rfl
theorem dX11_when_43 : decode cX11_when 43 = .ok (.iload_n 3, 1) := wn_at gdX11_when_39 2 rfl
theorem dX11_when_44 : decode cX11_when 44 = .ok (.i2l, 1) := wn_at gdX11_when_39 3 rfl
theorem dX11_when_45 : decode cX11_when 45 = .ok (.ldc2_w 281, 3) := wn_at gdX11_when_39 4 rfl
theorem dX11_when_48 : decode cX11_when 48 = .ok (.lmul, 1) := wn_at gdX11_when_39 5 rfl
theorem dX11_when_49 : decode cX11_when 49 = .ok (.aload_n 0, 1) := wn_at gdX11_when_39 6 rfl
theorem dX11_when_50 : decode cX11_when 50 = .ok (.getfield 48, 3) := wn_at gdX11_when_39 7 rfl
theorem dX11_when_53 : decode cX11_when 53 = .ok (.iload_n 1, 1) := wn_at gdX11_when_39 8 rfl
theorem dX11_when_54 : decode cX11_when 54 = .ok (.laload, 1) := wn_at gdX11_when_39 9 rfl
theorem gdX11_when_55 : ∀ e ∈ ([(55, .lsub, 1), (56, .lstore 5, 2), (58, .lload 5, 2), (60, .lconst 0, 1), (61, .lcmp, 1), (62, .ifCond .ge 7, 3), (65, .ldc2_w 360, 3), (68, .lreturn, 1), (69, .lload 5, 2), (71, .lconst 0, 1)] : List (Nat × Instr × Nat)), decode cX11_when e.1 = .ok e.2 := wn_all _ 55 (by decide +kernel)
theorem dX11_when_55 : decode cX11_when 55 = .ok (.lsub, 1) := wn_at gdX11_when_55 0 rfl
theorem dX11_when_56 : decode cX11_when 56 = .ok (.lstore 5, 2) := wn_at gdX11_when_55 1 rfl
theorem dX11_when_58 : decode cX11_when 58 = .ok (.lload 5, 2) := wn_at gdX11_when_55 2 rfl
theorem dX11_when_60 : decode cX11_when 60 = .ok (.lconst 0, 1) := wn_at gdX11_when_55 3 rfl
theorem dX11_when_61 : decode cX11_when 61 = .ok (.lcmp, 1) := wn_at gdX11_when_55 4 rfl
theorem dX11_when_62 : decode cX11_when 62 = .ok (.ifCond .ge 7, 3) := wn_at gdX11_when_55 5 rfl
theorem dX11_when_65 : decode cX11_when 65 = .ok (.ldc2_w 360, 3) := wn_at gdX11_when_55 6 rfl
theorem dX11_when_68 : decode cX11_when 68 = .ok (.lreturn, 1) := wn_at gdX11_when_55 7 rfl
theorem dX11_when_69 : decode cX11_when 69 = .ok (.lload 5, 2) := wn_at gdX11_when_55 8 rfl
theorem dX11_when_71 : decode cX11_when 71 = .ok (.lconst 0, 1) := wn_at gdX11_when_55 9 rfl
