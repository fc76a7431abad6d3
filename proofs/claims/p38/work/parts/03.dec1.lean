theorem gdX8_otherEnd_32 : ∀ e ∈ ([(32, .iaload, 1), (33, .goto 4, 3), (36, .iconst (-1), 1), (37, .ireturn, 1)] : List (Nat × Instr × Nat)), decode cX8_otherEnd e.1 = .ok e.2 := wn_all _ 32 (by decide +kernel)
theorem dX8_otherEnd_32 : decode cX8_otherEnd 32 = .ok (.iaload, 1) := wn_at gdX8_otherEnd_32 0 rfl
theorem dX8_otherEnd_33 : decode cX8_otherEnd 33 = .ok (.goto 4, 3) := wn_at gdX8_otherEnd_32 1 rfl
theorem dX8_otherEnd_36 : decode cX8_otherEnd 36 = .ok (.iconst (-1), 1) := wn_at gdX8_otherEnd_32 2 rfl
theorem dX8_otherEnd_37 : decode cX8_otherEnd 37 = .ok (.ireturn, 1) := wn_at gdX8_otherEnd_32 3 rfl
theorem gdX8_firstStair_0 : ∀ e ∈ ([(0, .aload_n 0, 1), (1, .iload_n 1, 1), (2, .iload_n 2, 1), (3, .invokevirtual 48, 3), (6, .istore_n 3, 1), (7, .iconst 0, 1), (8, .istore 4, 2), (10, .iload 4, 2), (12, .aload_n 0, 1), (13, .getfield 35, 3)] : List (Nat × Instr × Nat)), decode cX8_firstStair e.1 = .ok e.2 := wn_all _ 0 (by decide +kernel)
theorem dX8_firstStair_0 : decode cX8_firstStair 0 = .ok (.aload_n 0, 1) := wn_at gdX8_firstStair_0 0 rfl
theorem dX8_firstStair_1 : decode cX8_firstStair 1 = .ok (.iload_n 1, 1) := wn_at gdX8_firstStair_0 1 rfl
theorem dX8_firstStair_2 : decode cX8_firstStair 2 = .ok (.iload_n 2, 1) := wn_at gdX8_firstStair_0 2 rfl
theorem dX8_firstStair_3 : decode cX8_firstStair 3 = .ok (.invokevirtual 48, 3) := wn_at gdX8_firstStair_0 3 rfl
theorem dX8_firstStair_6 : decode cX8_firstStair 6 = .ok (.istore_n 3, 1) := wn_at gdX8_firstStair_0 4 rfl
theorem dX8_firstStair_7 : decode cX8_firstStair 7 = .ok (.iconst 0, 1) := wn_at gdX8_firstStair_0 5 rfl
theorem dX8_firstStair_8 : decode cX8_firstStair 8 = .ok (.istore 4, 2) := wn_at gdX8_firstStair_0 6 rfl
theorem dX8_firstStair_10 : decode cX8_firstStair 10 = .ok (.iload 4, 2) := wn_at gdX8_firstStair_0 7 rfl
theorem dX8_firstStair_12 : decode cX8_firstStair 12 = .ok (.aload_n 0, 1) := wn_at gdX8_firstStair_0 8 rfl
theorem dX8_firstStair_13 : decode cX8_firstStair 13 = .ok (.getfield 35, 3) := wn_at gdX8_firstStair_0 9 rfl
theorem gdX8_firstStair_16 : ∀ e ∈ ([(16, .if_icmp .ge 62, 3), (19, .iload_n 3, 1), (20, .ifCond .le 58, 3), (23, .aload_n 0, 1), (24, .iload 4, 2), (26, .iload_n 1, 1), (27, .invokevirtual 52, 3), (30, .istore 5, 2), (32, .iload 5, 2), (34, .ifCond .ge 7, 3)] : List (Nat × Instr × Nat)), decode cX8_firstStair e.1 = .ok e.2 := wn_all _ 16 (by decide +kernel)
theorem dX8_firstStair_16 : decode cX8_firstStair 16 = .ok (.if_icmp .ge 62, 3) := wn_at gdX8_firstStair_16 0 rfl
theorem dX8_firstStair_19 : decode cX8_firstStair 19 = .ok (.iload_n 3, 1) := wn_at gdX8_firstStair_16 1 rfl
theorem dX8_firstStair_20 : decode cX8_firstStair 20 = .ok (.ifCond .le 58, 3) := wn_at gdX8_firstStair_16 2 rfl
theorem dX8_firstStair_23 : decode cX8_firstStair 23 = .ok (.aload_n 0, 1) := wn_at gdX8_firstStair_16 3 rfl
theorem dX8_firstStair_24 : decode cX8_firstStair 24 = .ok (.iload 4, 2) := wn_at gdX8_firstStair_16 4 rfl
theorem dX8_firstStair_26 : decode cX8_firstStair 26 = .ok (.iload_n 1, 1) := wn_at gdX8_firstStair_16 5 rfl
theorem dX8_firstStair_27 : decode cX8_firstStair 27 = .ok (.invokevirtual 52, 3) := wn_at gdX8_firstStair_16 6 rfl
theorem dX8_firstStair_30 : decode cX8_firstStair 30 = .ok (.istore 5, 2) := wn_at gdX8_firstStair_16 7 rfl
theorem dX8_firstStair_32 : decode cX8_firstStair 32 = .ok (.iload 5, 2) := wn_at gdX8_firstStair_16 8 rfl
theorem dX8_firstStair_34 : decode cX8_firstStair 34 = .ok (.ifCond .ge 7, 3) := wn_at gdX8_firstStair_16 9 rfl
theorem gdX8_firstStair_37 : ∀ e ∈ ([(37, .iconst (-1), 1), (38, .goto 10, 3), (41, .aload_n 0, 1), (42, .iload 5, 2), (44, .iload_n 2, 1), (45, .invokevirtual 48, 3), (48, .istore 6, 2), (50, .iload 6, 2), (52, .ifCond .lt 20, 3), (55, .aload_n 0, 1)] : List (Nat × Instr × Nat)), decode cX8_firstStair e.1 = .ok e.2 := wn_all _ 37 (by decide +kernel)
theorem dX8_firstStair_37 : decode cX8_firstStair 37 = .ok (.iconst (-1), 1) := wn_at gdX8_firstStair_37 0 rfl
theorem dX8_firstStair_38 : decode cX8_firstStair 38 = .ok (.goto 10, 3) := wn_at gdX8_firstStair_37 1 rfl
theorem dX8_firstStair_41 : decode cX8_firstStair 41 = .ok (.aload_n 0, 1) := wn_at gdX8_firstStair_37 2 rfl
theorem dX8_firstStair_42 : decode cX8_firstStair 42 = .ok (.iload 5, 2) := wn_at gdX8_firstStair_37 3 rfl
theorem dX8_firstStair_44 : decode cX8_firstStair 44 = .ok (.iload_n 2, 1) := wn_at gdX8_firstStair_37 4 rfl
theorem dX8_firstStair_45 : decode cX8_firstStair 45 = .ok (.invokevirtual 48, 3) := wn_at gdX8_firstStair_37 5 rfl
theorem dX8_firstStair_48 : decode cX8_firstStair 48 = .ok (.istore 6, 2) := wn_at gdX8_firstStair_37 6 rfl
theorem dX8_firstStair_50 : decode cX8_firstStair 50 = .ok (.iload 6, 2) := wn_at gdX8_firstStair_37 7 rfl
theorem dX8_firstStair_52 : decode cX8_firstStair 52 = .ok (.ifCond .lt 20, 3) := wn_at gdX8_firstStair_37 8 rfl
theorem dX8_firstStair_55 : decode cX8_firstStair 55 = .ok (.aload_n 0, 1) := wn_at gdX8_firstStair_37 9 rfl
theorem gdX8_firstStair_56 : ∀ e ∈ ([(56, .getfield 22, 3), (59, .iload 4, 2), (61, .iaload, 1), (62, .iload 6, 2), (64, .iadd, 1), (65, .iload_n 3, 1), (66, .if_icmp .ne 6, 3), (69, .iload 4, 2), (71, .ireturn, 1), (72, .iinc 4 1, 3)] : List (Nat × Instr × Nat)), decode cX8_firstStair e.1 = .ok e.2 := wn_all _ 56 (by decide +kernel)
theorem dX8_firstStair_56 : decode cX8_firstStair 56 = .ok (.getfield 22, 3) := wn_at gdX8_firstStair_56 0 rfl
theorem dX8_firstStair_59 : decode cX8_firstStair 59 = .ok (.iload 4, 2) := wn_at gdX8_firstStair_56 1 rfl
theorem dX8_firstStair_61 : decode cX8_firstStair 61 = .ok (.iaload, 1) := wn_at gdX8_firstStair_56 2 rfl
theorem dX8_firstStair_62 : decode cX8_firstStair 62 = .ok (.iload 6, 2) := wn_at gdX8_firstStair_56 3 rfl
theorem dX8_firstStair_64 : decode cX8_firstStair 64 = .ok (.iadd, 1) := wn_at gdX8_firstStair_56 4 rfl
theorem dX8_firstStair_65 : decode cX8_firstStair 65 = .ok (.iload_n 3, 1) := wn_at gdX8_firstStair_56 5 rfl
theorem dX8_firstStair_66 : decode cX8_firstStair 66 = .ok (.if_icmp .ne 6, 3) := wn_at gdX8_firstStair_56 6 rfl
theorem dX8_firstStair_69 : decode cX8_firstStair 69 = .ok (.iload 4, 2) := wn_at gdX8_firstStair_56 7 rfl
theorem dX8_firstStair_71 : decode cX8_firstStair 71 = .ok (.ireturn, 1) := wn_at gdX8_firstStair_56 8 rfl
theorem dX8_firstStair_72 : decode cX8_firstStair 72 = .ok (.iinc 4 1, 3) := wn_at gdX8_firstStair_56 9 rfl
theorem gdX8_firstStair_75 : ∀ e ∈ ([(75, .goto (-65), 3), (78, .iconst (-1), 1), (79, .ireturn, 1)] : List (Nat × Instr × Nat)), decode cX8_firstStair e.1 = .ok e.2 := wn_all _ 75 (by decide +kernel)
theorem dX8_firstStair_75 : decode cX8_firstStair 75 = .ok (.goto (-65), 3) := wn_at gdX8_firstStair_75 0 rfl
theorem dX8_firstStair_78 : decode cX8_firstStair 78 = .ok (.iconst (-1), 1) := wn_at gdX8_firstStair_75 1 rfl
theorem dX8_firstStair_79 : decode cX8_firstStair 79 = .ok (.ireturn, 1) := wn_at gdX8_firstStair_75 2 rfl
theorem gdX8_stairsAt_0 : ∀ e ∈ ([(0, .iconst 0, 1), (1, .istore_n 2, 1), (2, .iconst 0, 1), (3, .istore_n 3, 1), (4, .iload_n 3, 1), (5, .aload_n 0, 1), (6, .getfield 35, 3), (9, .if_icmp .ge 26, 3), (12, .iload_n 2, 1), (13, .aload_n 0, 1)] : List (Nat × Instr × Nat)), decode cX8_stairsAt e.1 = .ok e.2 := wn_all _ 0 (by decide +kernel)
theorem dX8_stairsAt_0 : decode cX8_stairsAt 0 = .ok (.iconst 0, 1) := wn_at gdX8_stairsAt_0 0 rfl
theorem dX8_stairsAt_1 : decode cX8_stairsAt 1 = .ok (.istore_n 2, 1) := wn_at gdX8_stairsAt_0 1 rfl
theorem dX8_stairsAt_2 : decode cX8_stairsAt 2 = .ok (.iconst 0, 1) := wn_at gdX8_stairsAt_0 2 rfl
theorem dX8_stairsAt_3 : decode cX8_stairsAt 3 = .ok (.istore_n 3, 1) := wn_at gdX8_stairsAt_0 3 rfl
theorem dX8_stairsAt_4 : decode cX8_stairsAt 4 = .ok (.iload_n 3, 1) := wn_at gdX8_stairsAt_0 4 rfl
theorem dX8_stairsAt_5 : decode cX8_stairsAt 5 = .ok (.aload_n 0, 1) := wn_at gdX8_stairsAt_0 5 rfl
theorem dX8_stairsAt_6 : decode cX8_stairsAt 6 = .ok (.getfield 35, 3) := wn_at gdX8_stairsAt_0 6 rfl
theorem dX8_stairsAt_9 : decode cX8_stairsAt 9 = .ok (.if_icmp .ge 26, 3) := wn_at gdX8_stairsAt_0 7 rfl
theorem dX8_stairsAt_12 : decode cX8_stairsAt 12 = .ok (.iload_n 2, 1) := wn_at gdX8_stairsAt_0 8 rfl
theorem dX8_stairsAt_13 : decode cX8_stairsAt 13 = .ok (.aload_n 0, 1) := wn_at gdX8_stairsAt_0 9 rfl
theorem gdX8_stairsAt_14 : ∀ e ∈ ([(14, .iload_n 3, 1), (15, .iload_n 1, 1), (16, .invokevirtual 52, 3), (19, .ifCond .ge 7, 3), (22, .iconst 0, 1), (23, .goto 4, 3), (26, .iconst 1, 1), (27, .iadd, 1), (28, .istore_n 2, 1), (29, .iinc 3 1, 3)] : List (Nat × Instr × Nat)), decode cX8_stairsAt e.1 = .ok e.2 := wn_all _ 14 (by decide +kernel)
theorem dX8_stairsAt_14 : decode cX8_stairsAt 14 = .ok (.iload_n 3, 1) := wn_at gdX8_stairsAt_14 0 rfl
theorem dX8_stairsAt_15 : decode cX8_stairsAt 15 = .ok (.iload_n 1, 1) := wn_at gdX8_stairsAt_14 1 rfl
theorem dX8_stairsAt_16 : decode cX8_stairsAt 16 = .ok (.invokevirtual 52, 3) := wn_at gdX8_stairsAt_14 2 rfl
theorem dX8_stairsAt_19 : decode cX8_stairsAt 19 = .ok (.ifCond .ge 7, 3) := wn_at gdX8_stairsAt_14 3 rfl
theorem dX8_stairsAt_22 : decode cX8_stairsAt 22 = .ok (.iconst 0, 1) := wn_at gdX8_stairsAt_14 4 rfl
theorem dX8_stairsAt_23 : decode cX8_stairsAt 23 = .ok (.goto 4, 3) := wn_at gdX8_stairsAt_14 5 rfl
theorem dX8_stairsAt_26 : decode cX8_stairsAt 26 = .ok (.iconst 1, 1) := wn_at gdX8_stairsAt_14 6 rfl
theorem dX8_stairsAt_27 : decode cX8_stairsAt 27 = .ok (.iadd, 1) := wn_at gdX8_stairsAt_14 7 rfl
theorem dX8_stairsAt_28 : decode cX8_stairsAt 28 = .ok (.istore_n 2, 1) := wn_at gdX8_stairsAt_14 8 rfl
theorem dX8_stairsAt_29 : decode cX8_stairsAt 29 = .ok (.iinc 3 1, 3) := wn_at gdX8_stairsAt_14 9 rfl
theorem gdX8_stairsAt_32 : ∀ e ∈ ([(32, .goto (-28), 3), (35, .iload_n 2, 1), (36, .ireturn, 1)] : List (Nat × Instr × Nat)), decode cX8_stairsAt e.1 = .ok e.2 := wn_all _ 32 (by decide +kernel)
theorem dX8_stairsAt_32 : decode cX8_stairsAt 32 = .ok (.goto (-28), 3) := wn_at gdX8_stairsAt_32 0 rfl
theorem dX8_stairsAt_35 : decode cX8_stairsAt 35 = .ok (.iload_n 2, 1) := wn_at gdX8_stairsAt_32 1 rfl
theorem dX8_stairsAt_36 : decode cX8_stairsAt 36 = .ok (.ireturn, 1) := wn_at gdX8_stairsAt_32 2 rfl
theorem gdX8_stairInPlace_0 : ∀ e ∈ ([(0, .iconst 0, 1), (1, .istore_n 3, 1), (2, .iconst 0, 1), (3, .istore 4, 2), (5, .iload 4, 2), (7, .aload_n 0, 1), (8, .getfield 35, 3), (11, .if_icmp .ge 33, 3), (14, .aload_n 0, 1), (15, .iload 4, 2)] : List (Nat × Instr × Nat)), decode cX8_stairInPlace e.1 = .ok e.2 := wn_all _ 0 (by decide +kernel)
theorem dX8_stairInPlace_0 : decode cX8_stairInPlace 0 = .ok (.iconst 0, 1) := wn_at gdX8_stairInPlace_0 0 rfl
theorem dX8_stairInPlace_1 : decode cX8_stairInPlace 1 = .ok (.istore_n 3, 1) := wn_at gdX8_stairInPlace_0 1 rfl
theorem dX8_stairInPlace_2 : decode cX8_stairInPlace 2 = .ok (.iconst 0, 1) := wn_at gdX8_stairInPlace_0 2 rfl
theorem dX8_stairInPlace_3 : decode cX8_stairInPlace 3 = .ok (.istore 4, 2) := wn_at gdX8_stairInPlace_0 3 rfl
theorem dX8_stairInPlace_5 : decode cX8_stairInPlace 5 = .ok (.iload 4, 2) := wn_at gdX8_stairInPlace_0 4 rfl
theorem dX8_stairInPlace_7 : decode cX8_stairInPlace 7 = .ok (.aload_n 0, 1) := wn_at gdX8_stairInPlace_0 5 rfl
theorem dX8_stairInPlace_8 : decode cX8_stairInPlace 8 = .ok (.getfield 35, 3) := wn_at gdX8_stairInPlace_0 6 rfl
theorem dX8_stairInPlace_11 : decode cX8_stairInPlace 11 = .ok (.if_icmp .ge 33, 3) := wn_at gdX8_stairInPlace_0 7 rfl
theorem dX8_stairInPlace_14 : decode cX8_stairInPlace 14 = .ok (.aload_n 0, 1) := wn_at gdX8_stairInPlace_0 8 rfl
theorem dX8_stairInPlace_15 : decode cX8_stairInPlace 15 = .ok (.iload 4, 2) := wn_at gdX8_stairInPlace_0 9 rfl
theorem gdX8_stairInPlace_17 : ∀ e ∈ ([(17, .iload_n 1, 1), (18, .invokevirtual 52, 3), (21, .ifCond .ge 6, 3), (24, .goto 14, 3), (27, .iload_n 3, 1), (28, .iload_n 2, 1), (29, .if_icmp .ne 6, 3), (32, .iload 4, 2), (34, .ireturn, 1), (35, .iinc 3 1, 3)] : List (Nat × Instr × Nat)), decode cX8_stairInPlace e.1 = .ok e.2 := wn_all _ 17 (by decide +kernel)
theorem dX8_stairInPlace_17 : decode cX8_stairInPlace 17 = .ok (.iload_n 1, 1) := wn_at gdX8_stairInPlace_17 0 rfl
theorem dX8_stairInPlace_18 : decode cX8_stairInPlace 18 = .ok (.invokevirtual 52, 3) := wn_at gdX8_stairInPlace_17 1 rfl
theorem dX8_stairInPlace_21 : decode cX8_stairInPlace 21 = .ok (.ifCond .ge 6, 3) := wn_at gdX8_stairInPlace_17 2 rfl
theorem dX8_stairInPlace_24 : decode cX8_stairInPlace 24 = .ok (.goto 14, 3) := wn_at gdX8_stairInPlace_17 3 rfl
theorem dX8_stairInPlace_27 : decode cX8_stairInPlace 27 = .ok (.iload_n 3, 1) := wn_at gdX8_stairInPlace_17 4 rfl
theorem dX8_stairInPlace_28 : decode cX8_stairInPlace 28 = .ok (.iload_n 2, 1) := wn_at gdX8_stairInPlace_17 5 rfl
theorem dX8_stairInPlace_29 : decode cX8_stairInPlace 29 = .ok (.if_icmp .ne 6, 3) := wn_at gdX8_stairInPlace_17 6 rfl
theorem dX8_stairInPlace_32 : decode cX8_stairInPlace 32 = .ok (.iload 4, 2) := wn_at gdX8_stairInPlace_17 7 rfl
theorem dX8_stairInPlace_34 : decode cX8_stairInPlace 34 = .ok (.ireturn, 1) := wn_at gdX8_stairInPlace_17 8 rfl
theorem dX8_stairInPlace_35 : decode cX8_stairInPlace 35 = .ok (.iinc 3 1, 3) := wn_at gdX8_stairInPlace_17 9 rfl
theorem gdX8_stairInPlace_38 : ∀ e ∈ ([(38, .iinc 4 1, 3), (41, .goto (-36), 3), (44, .iconst (-1), 1), (45, .ireturn, 1)] : List (Nat × Instr × Nat)), decode cX8_stairInPlace e.1 = .ok e.2 := wn_all _ 38 (by decide +kernel)
theorem dX8_stairInPlace_38 : decode cX8_stairInPlace 38 = .ok (.iinc 4 1, 3) := wn_at gdX8_stairInPlace_38 0 rfl
theorem dX8_stairInPlace_41 : decode cX8_stairInPlace 41 = .ok (.goto (-36), 3) := wn_at gdX8_stairInPlace_38 1 rfl
theorem dX8_stairInPlace_44 : decode cX8_stairInPlace 44 = .ok (.iconst (-1), 1) := wn_at gdX8_stairInPlace_38 2 rfl
theorem dX8_stairInPlace_45 : decode cX8_stairInPlace 45 = .ok (.ireturn, 1) := wn_at gdX8_stairInPlace_38 3 rfl
theorem gdX8_isWayAround_0 : ∀ e ∈ ([(0, .iconst 1, 1), (1, .aload_n 0, 1), (2, .getfield 15, 3), (5, .iload_n 1, 1), (6, .iaload, 1), (7, .ishl, 1), (8, .istore_n 2, 1), (9, .iconst 0, 1), (10, .istore_n 3, 1), (11, .iload_n 3, 1)] : List (Nat × Instr × Nat)), decode cX8_isWayAround e.1 = .ok e.2 := wn_all _ 0 (by decide +kernel)
theorem dX8_isWayAround_0 : decode cX8_isWayAround 0 = .ok (.iconst 1, 1) := wn_at gdX8_isWayAround_0 0 rfl
theorem dX8_isWayAround_1 : decode cX8_isWayAround 1 = .ok (.aload_n 0, 1) := wn_at gdX8_isWayAround_0 1 rfl
theorem dX8_isWayAround_2 : decode cX8_isWayAround 2 = .ok (.getfield 15, 3) := wn_at gdX8_isWayAround_0 2 rfl
theorem dX8_isWayAround_5 : decode cX8_isWayAround 5 = .ok (.iload_n 1, 1) := wn_at gdX8_isWayAround_0 3 rfl
theorem dX8_isWayAround_6 : decode cX8_isWayAround 6 = .ok (.iaload, 1) := wn_at gdX8_isWayAround_0 4 rfl
theorem dX8_isWayAround_7 : decode cX8_isWayAround 7 = .ok (.ishl, 1) := wn_at gdX8_isWayAround_0 5 rfl
theorem dX8_isWayAround_8 : decode cX8_isWayAround 8 = .ok (.istore_n 2, 1) := wn_at gdX8_isWayAround_0 6 rfl
theorem dX8_isWayAround_9 : decode cX8_isWayAround 9 = .ok (.iconst 0, 1) := wn_at gdX8_isWayAround_0 7 rfl
theorem dX8_isWayAround_10 : decode cX8_isWayAround 10 = .ok (.istore_n 3, 1) := wn_at gdX8_isWayAround_0 8 rfl
theorem dX8_isWayAround_11 : decode cX8_isWayAround 11 = .ok (.iload_n 3, 1) := wn_at gdX8_isWayAround_0 9 rfl
theorem gdX8_isWayAround_12 : ∀ e ∈ ([(12, .aload_n 0, 1), (13, .getfield 31, 3), (16, .if_icmp .ge 66, 3), (19, .iconst 0, 1), (20, .istore 4, 2), (22, .iload 4, 2), (24, .aload_n 0, 1), (25, .getfield 35, 3), (28, .if_icmp .ge 48, 3), (31, .iconst 1, 1)] : List (Nat × Instr × Nat)), decode cX8_isWayAround e.1 = .ok e.2 := wn_all _ 12 (by decide +kernel)
theorem dX8_isWayAround_12 : decode cX8_isWayAround 12 = .ok (.aload_n 0, 1) := wn_at gdX8_isWayAround_12 0 rfl
theorem dX8_isWayAround_13 : decode cX8_isWayAround 13 = .ok (.getfield 31, 3) := wn_at gdX8_isWayAround_12 1 rfl
theorem dX8_isWayAround_16 : decode cX8_isWayAround 16 = .ok (.if_icmp .ge 66, 3) := wn_at gdX8_isWayAround_12 2 rfl
theorem dX8_isWayAround_19 : decode cX8_isWayAround 19 = .ok (.iconst 0, 1) := wn_at gdX8_isWayAround_12 3 rfl
theorem dX8_isWayAround_20 : decode cX8_isWayAround 20 = .ok (.istore 4, 2) := wn_at gdX8_isWayAround_12 4 rfl
theorem dX8_isWayAround_22 : decode cX8_isWayAround 22 = .ok (.iload 4, 2) := wn_at gdX8_isWayAround_12 5 rfl
theorem dX8_isWayAround_24 : decode cX8_isWayAround 24 = .ok (.aload_n 0, 1) := wn_at gdX8_isWayAround_12 6 rfl
theorem dX8_isWayAround_25 : decode cX8_isWayAround 25 = .ok (.getfield 35, 3) := wn_at gdX8_isWayAround_12 7 rfl
theorem dX8_isWayAround_28 : decode cX8_isWayAround 28 = .ok (.if_icmp .ge 48, 3) := wn_at gdX8_isWayAround_12 8 rfl
theorem dX8_isWayAround_31 : decode cX8_isWayAround 31 = .ok (.iconst 1, 1) := wn_at gdX8_isWayAround_12 9 rfl
theorem gdX8_isWayAround_32 : ∀ e ∈ ([(32, .aload_n 0, 1), (33, .getfield 15, 3), (36, .iload 4, 2), (38, .iaload, 1), (39, .ishl, 1), (40, .iconst 1, 1), (41, .aload_n 0, 1), (42, .getfield 19, 3), (45, .iload 4, 2), (47, .iaload, 1)] : List (Nat × Instr × Nat)), decode cX8_isWayAround e.1 = .ok e.2 := wn_all _ 32 (by decide +kernel)
theorem dX8_isWayAround_32 : decode cX8_isWayAround 32 = .ok (.aload_n 0, 1) := wn_at gdX8_isWayAround_32 0 rfl
theorem dX8_isWayAround_33 : decode cX8_isWayAround 33 = .ok (.getfield 15, 3) := wn_at gdX8_isWayAround_32 1 rfl
theorem dX8_isWayAround_36 : decode cX8_isWayAround 36 = .ok (.iload 4, 2) := wn_at gdX8_isWayAround_32 2 rfl
theorem dX8_isWayAround_38 : decode cX8_isWayAround 38 = .ok (.iaload, 1) := wn_at gdX8_isWayAround_32 3 rfl
theorem dX8_isWayAround_39 : decode cX8_isWayAround 39 = .ok (.ishl, 1) := wn_at gdX8_isWayAround_32 4 rfl
theorem dX8_isWayAround_40 : decode cX8_isWayAround 40 = .ok (.iconst 1, 1) := wn_at gdX8_isWayAround_32 5 rfl
theorem dX8_isWayAround_41 : decode cX8_isWayAround 41 = .ok (.aload_n 0, 1) := wn_at gdX8_isWayAround_32 6 rfl
theorem dX8_isWayAround_42 : decode cX8_isWayAround 42 = .ok (.getfield 19, 3) := wn_at gdX8_isWayAround_32 7 rfl
theorem dX8_isWayAround_45 : decode cX8_isWayAround 45 = .ok (.iload 4, 2) := wn_at gdX8_isWayAround_32 8 rfl
theorem dX8_isWayAround_47 : decode cX8_isWayAround 47 = .ok (.iaload, 1) := wn_at gdX8_isWayAround_32 9 rfl
theorem gdX8_isWayAround_48 : ∀ e ∈ ([(48, .ishl, 1), (49, .ior, 1), (50, .istore 5, 2), (52, .iload 4, 2), (54, .iload_n 1, 1), (55, .if_icmp .eq 15, 3), (58, .iload_n 2, 1), (59, .iload 5, 2), (61, .iand, 1), (62, .ifCond .eq 8, 3)] : List (Nat × Instr × Nat)), decode cX8_isWayAround e.1 = .ok e.2 := wn_all _ 48 (by decide +kernel)
theorem dX8_isWayAround_48 : decode cX8_isWayAround 48 = .ok (.ishl, 1) := wn_at gdX8_isWayAround_48 0 rfl
theorem dX8_isWayAround_49 : decode cX8_isWayAround 49 = .ok (.ior, 1) := wn_at gdX8_isWayAround_48 1 rfl
theorem dX8_isWayAround_50 : decode cX8_isWayAround 50 = .ok (.istore 5, 2) := wn_at gdX8_isWayAround_48 2 rfl
theorem dX8_isWayAround_52 : decode cX8_isWayAround 52 = .ok (.iload 4, 2) := wn_at gdX8_isWayAround_48 3 rfl
theorem dX8_isWayAround_54 : decode cX8_isWayAround 54 = .ok (.iload_n 1, 1) := wn_at gdX8_isWayAround_48 4 rfl
theorem dX8_isWayAround_55 : decode cX8_isWayAround 55 = .ok (.if_icmp .eq 15, 3) := wn_at gdX8_isWayAround_48 5 rfl
theorem dX8_isWayAround_58 : decode cX8_isWayAround 58 = .ok (.iload_n 2, 1) := wn_at gdX8_isWayAround_48 6 rfl
theorem dX8_isWayAround_59 : decode cX8_isWayAround 59 = .ok (.iload 5, 2) := wn_at gdX8_isWayAround_48 7 rfl
theorem dX8_isWayAround_61 : decode cX8_isWayAround 61 = .ok (.iand, 1) := wn_at gdX8_isWayAround_48 8 rfl
theorem dX8_isWayAround_62 : decode cX8_isWayAround 62 = .ok (.ifCond .eq 8, 3) := wn_at gdX8_isWayAround_48 9 rfl
theorem gdX8_isWayAround_65 : ∀ e ∈ ([(65, .iload_n 2, 1), (66, .iload 5, 2), (68, .ior, 1), (69, .istore_n 2, 1), (70, .iinc 4 1, 3), (73, .goto (-51), 3), (76, .iinc 3 1, 3), (79, .goto (-68), 3), (82, .iload_n 2, 1), (83, .iconst 1, 1)] : List (Nat × Instr × Nat)), decode cX8_isWayAround e.1 = .ok e.2 := wn_all _ 65 (by decide +kernel)
theorem dX8_isWayAround_65 : decode cX8_isWayAround 65 = .ok (.iload_n 2, 1) := wn_at gdX8_isWayAround_65 0 rfl
theorem dX8_isWayAround_66 : decode cX8_isWayAround 66 = .ok (.iload 5, 2) := wn_at gdX8_isWayAround_65 1 rfl
theorem dX8_isWayAround_68 : decode cX8_isWayAround 68 = .ok (.ior, 1) := wn_at gdX8_isWayAround_65 2 rfl
theorem dX8_isWayAround_69 : decode cX8_isWayAround 69 = .ok (.istore_n 2, 1) := wn_at gdX8_isWayAround_65 3 rfl
theorem dX8_isWayAround_70 : decode cX8_isWayAround 70 = .ok (.iinc 4 1, 3) := wn_at gdX8_isWayAround_65 4 rfl
theorem dX8_isWayAround_73 : decode cX8_isWayAround 73 = .ok (.goto (-51), 3) := wn_at gdX8_isWayAround_65 5 rfl
theorem dX8_isWayAround_76 : decode cX8_isWayAround 76 = .ok (.iinc 3 1, 3) := wn_at gdX8_isWayAround_65 6 rfl
theorem dX8_isWayAround_79 : decode cX8_isWayAround 79 = .ok (.goto (-68), 3) := wn_at gdX8_isWayAround_65 7 rfl
theorem dX8_isWayAround_82 : decode cX8_isWayAround 82 = .ok (.iload_n 2, 1) := wn_at gdX8_isWayAround_65 8 rfl
theorem dX8_isWayAround_83 : decode cX8_isWayAround 83 = .ok (.iconst 1, 1) := wn_at gdX8_isWayAround_65 9 rfl
theorem gdX8_isWayAround_84 : ∀ e ∈ ([(84, .aload_n 0, 1), (85, .getfield 19, 3), (88, .iload_n 1, 1), (89, .iaload, 1), (90, .ishl, 1), (91, .iand, 1), (92, .ifCond .eq 7, 3), (95, .iconst 1, 1), (96, .goto 4, 3), (99, .iconst 0, 1)] : List (Nat × Instr × Nat)), decode cX8_isWayAround e.1 = .ok e.2 := wn_all _ 84 (by decide +kernel)
theorem dX8_isWayAround_84 : decode cX8_isWayAround 84 = .ok (.aload_n 0, 1) := wn_at gdX8_isWayAround_84 0 rfl
theorem dX8_isWayAround_85 : decode cX8_isWayAround 85 = .ok (.getfield 19, 3) := wn_at gdX8_isWayAround_84 1 rfl
theorem dX8_isWayAround_88 : decode cX8_isWayAround 88 = .ok (.iload_n 1, 1) := wn_at gdX8_isWayAround_84 2 rfl
theorem dX8_isWayAround_89 : decode cX8_isWayAround 89 = .ok (.iaload, 1) := wn_at gdX8_isWayAround_84 3 rfl
theorem dX8_isWayAround_90 : decode cX8_isWayAround 90 = .ok (.ishl, 1) := wn_at gdX8_isWayAround_84 4 rfl
theorem dX8_isWayAround_91 : decode cX8_isWayAround 91 = .ok (.iand, 1) := wn_at gdX8_isWayAround_84 5 rfl
theorem dX8_isWayAround_92 : decode cX8_isWayAround 92 = .ok (.ifCond .eq 7, 3) := wn_at gdX8_isWayAround_84 6 rfl
theorem dX8_isWayAround_95 : decode cX8_isWayAround 95 = .ok (.iconst 1, 1) := wn_at gdX8_isWayAround_84 7 rfl
theorem dX8_isWayAround_96 : decode cX8_isWayAround 96 = .ok (.goto 4, 3) := wn_at gdX8_isWayAround_84 8 rfl
theorem dX8_isWayAround_99 : decode cX8_isWayAround 99 = .ok (.iconst 0, 1) := wn_at gdX8_isWayAround_84 9 rfl
theorem gdX8_isWayAround_100 : ∀ e ∈ ([(100, .ireturn, 1)] : List (Nat × Instr × Nat)), decode cX8_isWayAround e.1 = .ok e.2 := wn_all _ 100 (by decide +kernel)
theorem dX8_isWayAround_100 : decode cX8_isWayAround 100 = .ok (.ireturn, 1) := wn_at gdX8_isWayAround_100 0 rfl
theorem gdX8_clockAt_0 : ∀ e ∈ ([(0, .iload_n 2, 1), (1, .i2l, 1), (2, .aload_n 0, 1), (3, .getfield 9, 3), (6, .iload_n 1, 1), (7, .laload, 1), (8, .lmul, 1), (9, .lreturn, 1)] : List (Nat × Instr × Nat)), decode cX8_clockAt e.1 = .ok e.2 := wn_all _ 0 (by decide +kernel)
theorem dX8_clockAt_0 : decode cX8_clockAt 0 = .ok (.iload_n 2, 1) := wn_at gdX8_clockAt_0 0 rfl
theorem dX8_clockAt_1 : decode cX8_clockAt 1 = .ok (.i2l, 1) := wn_at gdX8_clockAt_0 1 rfl
theorem dX8_clockAt_2 : decode cX8_clockAt 2 = .ok (.aload_n 0, 1) := wn_at gdX8_clockAt_0 2 rfl
theorem dX8_clockAt_3 : decode cX8_clockAt 3 = .ok (.getfield 9, 3) := wn_at gdX8_clockAt_0 3 rfl
theorem dX8_clockAt_6 : decode cX8_clockAt 6 = .ok (.iload_n 1, 1) := wn_at gdX8_clockAt_0 4 rfl
theorem dX8_clockAt_7 : decode cX8_clockAt 7 = .ok (.laload, 1) := wn_at gdX8_clockAt_0 5 rfl
theorem dX8_clockAt_8 : decode cX8_clockAt 8 = .ok (.lmul, 1) := wn_at gdX8_clockAt_0 6 rfl
theorem dX8_clockAt_9 : decode cX8_clockAt 9 = .ok (.lreturn, 1) := wn_at gdX8_clockAt_0 7 rfl
theorem gdX9_init_0 : ∀ e ∈ ([(0, .aload_n 0, 1), (1, .invokespecial 3, 3), (4, .aload_n 0, 1), (5, .aload_n 1, 1), (6, .putfield 9, 3), (9, .aload_n 0, 1), (10, .aload_n 2, 1), (11, .putfield 15, 3), (14, .aload_n 0, 1), (15, .aload_n 3, 1)] : List (Nat × Instr × Nat)), decode cX9_init e.1 = .ok e.2 := wn_all _ 0 (by decide +kernel)
theorem dX9_init_0 : decode cX9_init 0 = .ok (.aload_n 0, 1) := wn_at gdX9_init_0 0 rfl
theorem dX9_init_1 : decode cX9_init 1 = .ok (.invokespecial 3, 3) := wn_at gdX9_init_0 1 rfl
theorem dX9_init_4 : decode cX9_init 4 = .ok (.aload_n 0, 1) := wn_at gdX9_init_0 2 rfl
theorem dX9_init_5 : decode cX9_init 5 = .ok (.aload_n 1, 1) := wn_at gdX9_init_0 3 rfl
theorem dX9_init_6 : decode cX9_init 6 = .ok (.putfield 9, 3) := wn_at gdX9_init_0 4 rfl
theorem dX9_init_9 : decode cX9_init 9 = .ok (.aload_n 0, 1) := wn_at gdX9_init_0 5 rfl
theorem dX9_init_10 : decode cX9_init 10 = .ok (.aload_n 2, 1) := wn_at gdX9_init_0 6 rfl
theorem dX9_init_11 : decode cX9_init 11 = .ok (.putfield 15, 3) := wn_at gdX9_init_0 7 rfl
theorem dX9_init_14 : decode cX9_init 14 = .ok (.aload_n 0, 1) := wn_at gdX9_init_0 8 rfl
theorem dX9_init_15 : decode cX9_init 15 = .ok (.aload_n 3, 1) := wn_at gdX9_init_0 9 rfl
theorem gdX9_init_16 : ∀ e ∈ ([(16, .putfield 19, 3), (19, .return_, 1)] : List (Nat × Instr × Nat)), decode cX9_init e.1 = .ok e.2 := wn_all _ 16 (by decide +kernel)
theorem dX9_init_16 : decode cX9_init 16 = .ok (.putfield 19, 3) := wn_at gdX9_init_16 0 rfl
theorem dX9_init_19 : decode cX9_init 19 = .ok (.return_, 1) := wn_at gdX9_init_16 1 rfl
theorem gdX9_read_0 : ∀ e ∈ ([(0, .aload_n 0, 1), (1, .getfield 15, 3), (4, .iconst 0, 1), (5, .putfield 23, 3), (8, .aload_n 0, 1), (9, .getfield 15, 3), (12, .iconst 0, 1), (13, .putfield 29, 3), (16, .aload_n 0, 1), (17, .getfield 19, 3)] : List (Nat × Instr × Nat)), decode cX9_read e.1 = .ok e.2 := wn_all _ 0 (by decide +kernel)
theorem dX9_read_0 : decode cX9_read 0 = .ok (.aload_n 0, 1) := wn_at gdX9_read_0 0 rfl
theorem dX9_read_1 : decode cX9_read 1 = .ok (.getfield 15, 3) := wn_at gdX9_read_0 1 rfl
theorem dX9_read_4 : decode cX9_read 4 = .ok (.iconst 0, 1) := wn_at gdX9_read_0 2 rfl
theorem dX9_read_5 : decode cX9_read 5 = .ok (.putfield 23, 3) := wn_at gdX9_read_0 3 rfl
theorem dX9_read_8 : decode cX9_read 8 = .ok (.aload_n 0, 1) := wn_at gdX9_read_0 4 rfl
theorem dX9_read_9 : decode cX9_read 9 = .ok (.getfield 15, 3) := wn_at gdX9_read_0 5 rfl
theorem dX9_read_12 : decode cX9_read 12 = .ok (.iconst 0, 1) := wn_at gdX9_read_0 6 rfl
theorem dX9_read_13 : decode cX9_read 13 = .ok (.putfield 29, 3) := wn_at gdX9_read_0 7 rfl
theorem dX9_read_16 : decode cX9_read 16 = .ok (.aload_n 0, 1) := wn_at gdX9_read_0 8 rfl
theorem dX9_read_17 : decode cX9_read 17 = .ok (.getfield 19, 3) := wn_at gdX9_read_0 9 rfl
theorem gdX9_read_20 : ∀ e ∈ ([(20, .iconst 0, 1), (21, .putfield 32, 3), (24, .aload_n 0, 1), (25, .getfield 19, 3), (28, .iconst 0, 1), (29, .putfield 37, 3), (32, .aload_n 0, 1), (33, .getfield 9, 3), (36, .invokevirtual 40, 3), (39, .iconst 0, 1)] : List (Nat × Instr × Nat)), decode cX9_read e.1 = .ok e.2 := wn_all _ 20 (by decide +kernel)
theorem dX9_read_20 : decode cX9_read 20 = .ok (.iconst 0, 1) := wn_at gdX9_read_20 0 rfl
theorem dX9_read_21 : decode cX9_read 21 = .ok (.putfield 32, 3) := wn_at gdX9_read_20 1 rfl
theorem dX9_read_24 : decode cX9_read 24 = .ok (.aload_n 0, 1) := wn_at gdX9_read_20 2 rfl
theorem dX9_read_25 : decode cX9_read 25 = .ok (.getfield 19, 3) := wn_at gdX9_read_20 3 rfl
theorem dX9_read_28 : decode cX9_read 28 = .ok (.iconst 0, 1) := wn_at gdX9_read_20 4 rfl
theorem dX9_read_29 : decode cX9_read 29 = .ok (.putfield 37, 3) := wn_at gdX9_read_20 5 rfl
theorem dX9_read_32 : decode cX9_read 32 = .ok (.aload_n 0, 1) := wn_at gdX9_read_20 6 rfl
theorem dX9_read_33 : decode cX9_read 33 = .ok (.getfield 9, 3) := wn_at gdX9_read_20 7 rfl
theorem dX9_read_36 : decode cX9_read 36 = .ok (.invokevirtual 40, 3) := wn_at gdX9_read_20 8 rfl
theorem dX9_read_39 : decode cX9_read 39 = .ok (.iconst 0, 1) := wn_at gdX9_read_20 9 rfl
theorem gdX9_read_40 : ∀ e ∈ ([(40, .istore_n 1, 1), (41, .iload_n 1, 1), (42, .bipush 24, 2), (44, .if_icmp .gt 66, 3), (47, .aload_n 0, 1), (48, .iload_n 1, 1), (49, .invokevirtual 45, 3), (52, .ifCond .ne 5, 3), (55, .iconst 0, 1), (56, .ireturn, 1)] : List (Nat × Instr × Nat)), decode cX9_read e.1 = .ok e.2 := wn_all _ 40 (by decide +kernel)
theorem dX9_read_40 : decode cX9_read 40 = .ok (.istore_n 1, 1) := wn_at gdX9_read_40 0 rfl
theorem dX9_read_41 : decode cX9_read 41 = .ok (.iload_n 1, 1) := wn_at gdX9_read_40 1 rfl
theorem dX9_read_42 : decode cX9_read 42 = .ok (.bipush 24, 2) := wn_at gdX9_read_40 2 rfl
theorem dX9_read_44 : decode cX9_read 44 = .ok (.if_icmp .gt 66, 3) := wn_at gdX9_read_40 3 rfl
theorem dX9_read_47 : decode cX9_read 47 = .ok (.aload_n 0, 1) := wn_at gdX9_read_40 4 rfl
theorem dX9_read_48 : decode cX9_read 48 = .ok (.iload_n 1, 1) := wn_at gdX9_read_40 5 rfl
theorem dX9_read_49 : decode cX9_read 49 = .ok (.invokevirtual 45, 3) := wn_at gdX9_read_40 6 rfl
theorem dX9_read_52 : decode cX9_read 52 = .ok (.ifCond .ne 5, 3) := wn_at gdX9_read_40 7 rfl
theorem dX9_read_55 : decode cX9_read 55 = .ok (.iconst 0, 1) := wn_at gdX9_read_40 8 rfl
theorem dX9_read_56 : decode cX9_read 56 = .ok (.ireturn, 1) := wn_at gdX9_read_40 9 rfl
theorem gdX9_read_57 : ∀ e ∈ ([(57, .aload_n 0, 1), (58, .getfield 9, 3), (61, .invokevirtual 49, 3), (64, .ifCond .eq 12, 3), (67, .aload_n 0, 1), (68, .getfield 15, 3), (71, .invokevirtual 53, 3), (74, .iconst 1, 1), (75, .ireturn, 1), (76, .aload_n 0, 1)] : List (Nat × Instr × Nat)), decode cX9_read e.1 = .ok e.2 := wn_all _ 57 (by decide +kernel)
theorem dX9_read_57 : decode cX9_read 57 = .ok (.aload_n 0, 1) := wn_at gdX9_read_57 0 rfl
theorem dX9_read_58 : decode cX9_read 58 = .ok (.getfield 9, 3) := wn_at gdX9_read_57 1 rfl
theorem dX9_read_61 : decode cX9_read 61 = .ok (.invokevirtual 49, 3) := wn_at gdX9_read_57 2 rfl
theorem dX9_read_64 : decode cX9_read 64 = .ok (.ifCond .eq 12, 3) := wn_at gdX9_read_57 3 rfl
theorem dX9_read_67 : decode cX9_read 67 = .ok (.aload_n 0, 1) := wn_at gdX9_read_57 4 rfl
theorem dX9_read_68 : decode cX9_read 68 = .ok (.getfield 15, 3) := wn_at gdX9_read_57 5 rfl
theorem dX9_read_71 : decode cX9_read 71 = .ok (.invokevirtual 53, 3) := wn_at gdX9_read_57 6 rfl
theorem dX9_read_74 : decode cX9_read 74 = .ok (.iconst 1, 1) := wn_at gdX9_read_57 7 rfl
theorem dX9_read_75 : decode cX9_read 75 = .ok (.ireturn, 1) := wn_at gdX9_read_57 8 rfl
theorem dX9_read_76 : decode cX9_read 76 = .ok (.aload_n 0, 1) := wn_at gdX9_read_57 9 rfl
theorem gdX9_read_77 : ∀ e ∈ ([(77, .getfield 9, 3), (80, .bipush 59, 2), (82, .invokevirtual 56, 3), (85, .ifCond .ne 19, 3), (88, .aload_n 0, 1), (89, .getfield 9, 3), (92, .aload_n 0, 1), (93, .getfield 9, 3), (96, .getfield 60, 3), (99, .iconst 0, 1)] : List (Nat × Instr × Nat)), decode cX9_read e.1 = .ok e.2 := wn_all _ 77 (by decide +kernel)
theorem dX9_read_77 : decode cX9_read 77 = .ok (.getfield 9, 3) := wn_at gdX9_read_77 0 rfl
theorem dX9_read_80 : decode cX9_read 80 = .ok (.bipush 59, 2) := wn_at gdX9_read_77 1 rfl
theorem dX9_read_82 : decode cX9_read 82 = .ok (.invokevirtual 56, 3) := wn_at gdX9_read_77 2 rfl
theorem dX9_read_85 : decode cX9_read 85 = .ok (.ifCond .ne 19, 3) := wn_at gdX9_read_77 3 rfl
theorem dX9_read_88 : decode cX9_read 88 = .ok (.aload_n 0, 1) := wn_at gdX9_read_77 4 rfl
theorem dX9_read_89 : decode cX9_read 89 = .ok (.getfield 9, 3) := wn_at gdX9_read_77 5 rfl
theorem dX9_read_92 : decode cX9_read 92 = .ok (.aload_n 0, 1) := wn_at gdX9_read_77 6 rfl
theorem dX9_read_93 : decode cX9_read 93 = .ok (.getfield 9, 3) := wn_at gdX9_read_77 7 rfl
theorem dX9_read_96 : decode cX9_read 96 = .ok (.getfield 60, 3) := wn_at gdX9_read_77 8 rfl
theorem dX9_read_99 : decode cX9_read 99 = .ok (.iconst 0, 1) := wn_at gdX9_read_77 9 rfl
theorem gdX9_read_100 : ∀ e ∈ ([(100, .invokevirtual 63, 3), (103, .ireturn, 1), (104, .iinc 1 1, 3), (107, .goto (-66), 3), (110, .iconst 0, 1), (111, .ireturn, 1)] : List (Nat × Instr × Nat)), decode cX9_read e.1 = .ok e.2 := wn_all _ 100 (by decide +kernel)
theorem dX9_read_100 : decode cX9_read 100 = .ok (.invokevirtual 63, 3) := wn_at gdX9_read_100 0 rfl
theorem dX9_read_103 : decode cX9_read 103 = .ok (.ireturn, 1) := wn_at gdX9_read_100 1 rfl
theorem dX9_read_104 : decode cX9_read 104 = .ok (.iinc 1 1, 3) := wn_at gdX9_read_100 2 rfl
theorem dX9_read_107 : decode cX9_read 107 = .ok (.goto (-66), 3) := wn_at gdX9_read_100 3 rfl
theorem dX9_read_110 : decode cX9_read 110 = .ok (.iconst 0, 1) := wn_at gdX9_read_100 4 rfl
theorem dX9_read_111 : decode cX9_read 111 = .ok (.ireturn, 1) := wn_at gdX9_read_100 5 rfl
theorem gdX9_readClause_0 : ∀ e ∈ ([(0, .aload_n 0, 1), (1, .getfield 9, 3), (4, .ldc 67, 2), (6, .invokevirtual 69, 3), (9, .istore_n 2, 1), (10, .iload_n 2, 1), (11, .ifCond .ne 19, 3), (14, .aload_n 0, 1), (15, .getfield 9, 3), (18, .ldc 73, 2)] : List (Nat × Instr × Nat)), decode cX9_readClause e.1 = .ok e.2 := wn_all _ 0 (by decide +kernel)
theorem dX9_readClause_0 : decode cX9_readClause 0 = .ok (.aload_n 0, 1) := wn_at gdX9_readClause_0 0 rfl
theorem dX9_readClause_1 : decode cX9_readClause 1 = .ok (.getfield 9, 3) := wn_at gdX9_readClause_0 1 rfl
theorem dX9_readClause_4 : decode cX9_readClause 4 = .ok (.ldc 67, 2) := wn_at gdX9_readClause_0 2 rfl
theorem dX9_readClause_6 : decode cX9_readClause 6 = .ok (.invokevirtual 69, 3) := wn_at gdX9_readClause_0 3 rfl
theorem dX9_readClause_9 : decode cX9_readClause 9 = .ok (.istore_n 2, 1) := wn_at gdX9_readClause_0 4 rfl
theorem dX9_readClause_10 : decode cX9_readClause 10 = .ok (.iload_n 2, 1) := wn_at gdX9_readClause_0 5 rfl
theorem dX9_readClause_11 : decode cX9_readClause 11 = .ok (.ifCond .ne 19, 3) := wn_at gdX9_readClause_0 6 rfl
theorem dX9_readClause_14 : decode cX9_readClause 14 = .ok (.aload_n 0, 1) := wn_at gdX9_readClause_0 7 rfl
theorem dX9_readClause_15 : decode cX9_readClause 15 = .ok (.getfield 9, 3) := wn_at gdX9_readClause_0 8 rfl
theorem dX9_readClause_18 : decode cX9_readClause 18 = .ok (.ldc 73, 2) := wn_at gdX9_readClause_0 9 rfl
theorem gdX9_readClause_20 : ∀ e ∈ ([(20, .invokevirtual 69, 3), (23, .ifCond .eq 7, 3), (26, .iconst 1, 1), (27, .goto 4, 3), (30, .iconst 0, 1), (31, .istore_n 3, 1), (32, .iload_n 2, 1), (33, .ifCond .ne 23, 3), (36, .iload_n 3, 1), (37, .ifCond .ne 19, 3)] : List (Nat × Instr × Nat)), decode cX9_readClause e.1 = .ok e.2 := wn_all _ 20 (by decide +kernel)
theorem dX9_readClause_20 : decode cX9_readClause 20 = .ok (.invokevirtual 69, 3) := wn_at gdX9_readClause_20 0 rfl
theorem dX9_readClause_23 : decode cX9_readClause 23 = .ok (.ifCond .eq 7, 3) := wn_at gdX9_readClause_20 1 rfl
theorem dX9_readClause_26 : decode cX9_readClause 26 = .ok (.iconst 1, 1) := wn_at gdX9_readClause_20 2 rfl
theorem dX9_readClause_27 : decode cX9_readClause 27 = .ok (.goto 4, 3) := wn_at gdX9_readClause_20 3 rfl
theorem dX9_readClause_30 : decode cX9_readClause 30 = .ok (.iconst 0, 1) := wn_at gdX9_readClause_20 4 rfl
theorem dX9_readClause_31 : decode cX9_readClause 31 = .ok (.istore_n 3, 1) := wn_at gdX9_readClause_20 5 rfl
theorem dX9_readClause_32 : decode cX9_readClause 32 = .ok (.iload_n 2, 1) := wn_at gdX9_readClause_20 6 rfl
theorem dX9_readClause_33 : decode cX9_readClause 33 = .ok (.ifCond .ne 23, 3) := wn_at gdX9_readClause_20 7 rfl
theorem dX9_readClause_36 : decode cX9_readClause 36 = .ok (.iload_n 3, 1) := wn_at gdX9_readClause_20 8 rfl
theorem dX9_readClause_37 : decode cX9_readClause 37 = .ok (.ifCond .ne 19, 3) := wn_at gdX9_readClause_20 9 rfl
theorem gdX9_readClause_40 : ∀ e ∈ ([(40, .aload_n 0, 1), (41, .getfield 9, 3), (44, .ldc 75, 2), (46, .invokevirtual 69, 3), (49, .ifCond .eq 7, 3), (52, .iconst 1, 1), (53, .goto 4, 3), (56, .iconst 0, 1), (57, .istore 4, 2), (59, .iload_n 2, 1)] : List (Nat × Instr × Nat)), decode cX9_readClause e.1 = .ok e.2 := wn_all _ 40 (by decide +kernel)
theorem dX9_readClause_40 : decode cX9_readClause 40 = .ok (.aload_n 0, 1) := wn_at gdX9_readClause_40 0 rfl
theorem dX9_readClause_41 : decode cX9_readClause 41 = .ok (.getfield 9, 3) := wn_at gdX9_readClause_40 1 rfl
theorem dX9_readClause_44 : decode cX9_readClause 44 = .ok (.ldc 75, 2) := wn_at gdX9_readClause_40 2 rfl
theorem dX9_readClause_46 : decode cX9_readClause 46 = .ok (.invokevirtual 69, 3) := wn_at gdX9_readClause_40 3 rfl
theorem dX9_readClause_49 : decode cX9_readClause 49 = .ok (.ifCond .eq 7, 3) := wn_at gdX9_readClause_40 4 rfl
theorem dX9_readClause_52 : decode cX9_readClause 52 = .ok (.iconst 1, 1) := wn_at gdX9_readClause_40 5 rfl
theorem dX9_readClause_53 : decode cX9_readClause 53 = .ok (.goto 4, 3) := wn_at gdX9_readClause_40 6 rfl
theorem dX9_readClause_56 : decode cX9_readClause 56 = .ok (.iconst 0, 1) := wn_at gdX9_readClause_40 7 rfl
theorem dX9_readClause_57 : decode cX9_readClause 57 = .ok (.istore 4, 2) := wn_at gdX9_readClause_40 8 rfl
theorem dX9_readClause_59 : decode cX9_readClause 59 = .ok (.iload_n 2, 1) := wn_at gdX9_readClause_40 9 rfl
theorem gdX9_readClause_60 : ∀ e ∈ ([(60, .ifCond .ne 28, 3), (63, .iload_n 3, 1), (64, .ifCond .ne 24, 3), (67, .iload 4, 2), (69, .ifCond .ne 19, 3), (72, .aload_n 0, 1), (73, .getfield 9, 3), (76, .aload_n 0, 1), (77, .getfield 9, 3), (80, .getfield 60, 3)] : List (Nat × Instr × Nat)), decode cX9_readClause e.1 = .ok e.2 := wn_all _ 60 (by decide +kernel)
theorem dX9_readClause_60 : decode cX9_readClause 60 = .ok (.ifCond .ne 28, 3) := wn_at gdX9_readClause_60 0 rfl
theorem dX9_readClause_63 : decode cX9_readClause 63 = .ok (.iload_n 3, 1) := wn_at gdX9_readClause_60 1 rfl
theorem dX9_readClause_64 : decode cX9_readClause 64 = .ok (.ifCond .ne 24, 3) := wn_at gdX9_readClause_60 2 rfl
theorem dX9_readClause_67 : decode cX9_readClause 67 = .ok (.iload 4, 2) := wn_at gdX9_readClause_60 3 rfl
theorem dX9_readClause_69 : decode cX9_readClause 69 = .ok (.ifCond .ne 19, 3) := wn_at gdX9_readClause_60 4 rfl
theorem dX9_readClause_72 : decode cX9_readClause 72 = .ok (.aload_n 0, 1) := wn_at gdX9_readClause_60 5 rfl
theorem dX9_readClause_73 : decode cX9_readClause 73 = .ok (.getfield 9, 3) := wn_at gdX9_readClause_60 6 rfl
theorem dX9_readClause_76 : decode cX9_readClause 76 = .ok (.aload_n 0, 1) := wn_at gdX9_readClause_60 7 rfl
theorem dX9_readClause_77 : decode cX9_readClause 77 = .ok (.getfield 9, 3) := wn_at gdX9_readClause_60 8 rfl
theorem dX9_readClause_80 : decode cX9_readClause 80 = .ok (.getfield 60, 3) := wn_at gdX9_readClause_60 9 rfl
theorem gdX9_readClause_83 : ∀ e ∈ ([(83, .iconst 0, 1), (84, .invokevirtual 63, 3), (87, .ireturn, 1), (88, .iload_n 2, 1), (89, .ifCond .eq 15, 3), (92, .aload_n 0, 1), (93, .getfield 15, 3), (96, .getfield 23, 3), (99, .bipush 10, 2), (101, .if_icmp .ge 36, 3)] : List (Nat × Instr × Nat)), decode cX9_readClause e.1 = .ok e.2 := wn_all _ 83 (by decide +kernel)
theorem dX9_readClause_83 : decode cX9_readClause 83 = .ok (.iconst 0, 1) := wn_at gdX9_readClause_83 0 rfl
theorem dX9_readClause_84 : decode cX9_readClause 84 = .ok (.invokevirtual 63, 3) := wn_at gdX9_readClause_83 1 rfl
theorem dX9_readClause_87 : decode cX9_readClause 87 = .ok (.ireturn, 1) := wn_at gdX9_readClause_83 2 rfl
theorem dX9_readClause_88 : decode cX9_readClause 88 = .ok (.iload_n 2, 1) := wn_at gdX9_readClause_83 3 rfl
theorem dX9_readClause_89 : decode cX9_readClause 89 = .ok (.ifCond .eq 15, 3) := wn_at gdX9_readClause_83 4 rfl
theorem dX9_readClause_92 : decode cX9_readClause 92 = .ok (.aload_n 0, 1) := wn_at gdX9_readClause_83 5 rfl
theorem dX9_readClause_93 : decode cX9_readClause 93 = .ok (.getfield 15, 3) := wn_at gdX9_readClause_83 6 rfl
theorem dX9_readClause_96 : decode cX9_readClause 96 = .ok (.getfield 23, 3) := wn_at gdX9_readClause_83 7 rfl
theorem dX9_readClause_99 : decode cX9_readClause 99 = .ok (.bipush 10, 2) := wn_at gdX9_readClause_83 8 rfl
theorem dX9_readClause_101 : decode cX9_readClause 101 = .ok (.if_icmp .ge 36, 3) := wn_at gdX9_readClause_83 9 rfl
theorem gdX9_readClause_104 : ∀ e ∈ ([(104, .iload_n 3, 1), (105, .ifCond .eq 15, 3), (108, .aload_n 0, 1), (109, .getfield 15, 3), (112, .getfield 29, 3), (115, .bipush 12, 2), (117, .if_icmp .ge 20, 3), (120, .iload 4, 2), (122, .ifCond .eq 19, 3), (125, .aload_n 0, 1)] : List (Nat × Instr × Nat)), decode cX9_readClause e.1 = .ok e.2 := wn_all _ 104 (by decide +kernel)
theorem dX9_readClause_104 : decode cX9_readClause 104 = .ok (.iload_n 3, 1) := wn_at gdX9_readClause_104 0 rfl
theorem dX9_readClause_105 : decode cX9_readClause 105 = .ok (.ifCond .eq 15, 3) := wn_at gdX9_readClause_104 1 rfl
theorem dX9_readClause_108 : decode cX9_readClause 108 = .ok (.aload_n 0, 1) := wn_at gdX9_readClause_104 2 rfl
theorem dX9_readClause_109 : decode cX9_readClause 109 = .ok (.getfield 15, 3) := wn_at gdX9_readClause_104 3 rfl
theorem dX9_readClause_112 : decode cX9_readClause 112 = .ok (.getfield 29, 3) := wn_at gdX9_readClause_104 4 rfl
theorem dX9_readClause_115 : decode cX9_readClause 115 = .ok (.bipush 12, 2) := wn_at gdX9_readClause_104 5 rfl
theorem dX9_readClause_117 : decode cX9_readClause 117 = .ok (.if_icmp .ge 20, 3) := wn_at gdX9_readClause_104 6 rfl
theorem dX9_readClause_120 : decode cX9_readClause 120 = .ok (.iload 4, 2) := wn_at gdX9_readClause_104 7 rfl
theorem dX9_readClause_122 : decode cX9_readClause 122 = .ok (.ifCond .eq 19, 3) := wn_at gdX9_readClause_104 8 rfl
theorem dX9_readClause_125 : decode cX9_readClause 125 = .ok (.aload_n 0, 1) := wn_at gdX9_readClause_104 9 rfl
theorem gdX9_readClause_126 : ∀ e ∈ ([(126, .getfield 19, 3), (129, .getfield 32, 3), (132, .bipush 8, 2), (134, .if_icmp .lt 7, 3), (137, .iconst 1, 1), (138, .goto 4, 3), (141, .iconst 0, 1), (142, .istore 5, 2), (144, .iload 5, 2), (146, .ifCond .ne 9, 3)] : List (Nat × Instr × Nat)), decode cX9_readClause e.1 = .ok e.2 := wn_all _ 126 (by decide +kernel)
theorem dX9_readClause_126 : decode cX9_readClause 126 = .ok (.getfield 19, 3) := wn_at gdX9_readClause_126 0 rfl
theorem dX9_readClause_129 : decode cX9_readClause 129 = .ok (.getfield 32, 3) := wn_at gdX9_readClause_126 1 rfl
theorem dX9_readClause_132 : decode cX9_readClause 132 = .ok (.bipush 8, 2) := wn_at gdX9_readClause_126 2 rfl
theorem dX9_readClause_134 : decode cX9_readClause 134 = .ok (.if_icmp .lt 7, 3) := wn_at gdX9_readClause_126 3 rfl
theorem dX9_readClause_137 : decode cX9_readClause 137 = .ok (.iconst 1, 1) := wn_at gdX9_readClause_126 4 rfl
theorem dX9_readClause_138 : decode cX9_readClause 138 = .ok (.goto 4, 3) := wn_at gdX9_readClause_126 5 rfl
theorem dX9_readClause_141 : decode cX9_readClause 141 = .ok (.iconst 0, 1) := wn_at gdX9_readClause_126 6 rfl
theorem dX9_readClause_142 : decode cX9_readClause 142 = .ok (.istore 5, 2) := wn_at gdX9_readClause_126 7 rfl
theorem dX9_readClause_144 : decode cX9_readClause 144 = .ok (.iload 5, 2) := wn_at gdX9_readClause_126 8 rfl
theorem dX9_readClause_146 : decode cX9_readClause 146 = .ok (.ifCond .ne 9, 3) := wn_at gdX9_readClause_126 9 rfl
theorem gdX9_readClause_149 : ∀ e ∈ ([(149, .iload_n 1, 1), (150, .bipush 24, 2), (152, .if_icmp .lt 19, 3), (155, .aload_n 0, 1), (156, .getfield 9, 3), (159, .aload_n 0, 1), (160, .getfield 9, 3), (163, .getfield 77, 3), (166, .iconst 4, 1), (167, .invokevirtual 63, 3)] : List (Nat × Instr × Nat)), decode cX9_readClause e.1 = .ok e.2 := wn_all _ 149 (by decide +kernel)
theorem dX9_readClause_149 : decode cX9_readClause 149 = .ok (.iload_n 1, 1) := wn_at gdX9_readClause_149 0 rfl
theorem dX9_readClause_150 : decode cX9_readClause 150 = .ok (.bipush 24, 2) := wn_at gdX9_readClause_149 1 rfl
theorem dX9_readClause_152 : decode cX9_readClause 152 = .ok (.if_icmp .lt 19, 3) := wn_at gdX9_readClause_149 2 rfl
theorem dX9_readClause_155 : decode cX9_readClause 155 = .ok (.aload_n 0, 1) := wn_at gdX9_readClause_149 3 rfl
theorem dX9_readClause_156 : decode cX9_readClause 156 = .ok (.getfield 9, 3) := wn_at gdX9_readClause_149 4 rfl
theorem dX9_readClause_159 : decode cX9_readClause 159 = .ok (.aload_n 0, 1) := wn_at gdX9_readClause_149 5 rfl
theorem dX9_readClause_160 : decode cX9_readClause 160 = .ok (.getfield 9, 3) := wn_at gdX9_readClause_149 6 rfl
theorem dX9_readClause_163 : decode cX9_readClause 163 = .ok (.getfield 77, 3) := wn_at gdX9_readClause_149 7 rfl
theorem dX9_readClause_166 : decode cX9_readClause 166 = .ok (.iconst 4, 1) := wn_at gdX9_readClause_149 8 rfl
theorem dX9_readClause_167 : decode cX9_readClause 167 = .ok (.invokevirtual 63, 3) := wn_at gdX9_readClause_149 9 rfl
theorem gdX9_readClause_170 : ∀ e ∈ ([(170, .ireturn, 1), (171, .iload_n 2, 1), (172, .ifCond .eq 8, 3), (175, .aload_n 0, 1), (176, .invokevirtual 80, 3), (179, .ireturn, 1), (180, .iload_n 3, 1), (181, .ifCond .eq 10, 3), (184, .aload_n 0, 1), (185, .invokevirtual 83, 3)] : List (Nat × Instr × Nat)), decode cX9_readClause e.1 = .ok e.2 := wn_all _ 170 (by decide +kernel)
theorem dX9_readClause_170 : decode cX9_readClause 170 = .ok (.ireturn, 1) := wn_at gdX9_readClause_170 0 rfl
theorem dX9_readClause_171 : decode cX9_readClause 171 = .ok (.iload_n 2, 1) := wn_at gdX9_readClause_170 1 rfl
theorem dX9_readClause_172 : decode cX9_readClause 172 = .ok (.ifCond .eq 8, 3) := wn_at gdX9_readClause_170 2 rfl
theorem dX9_readClause_175 : decode cX9_readClause 175 = .ok (.aload_n 0, 1) := wn_at gdX9_readClause_170 3 rfl
theorem dX9_readClause_176 : decode cX9_readClause 176 = .ok (.invokevirtual 80, 3) := wn_at gdX9_readClause_170 4 rfl
theorem dX9_readClause_179 : decode cX9_readClause 179 = .ok (.ireturn, 1) := wn_at gdX9_readClause_170 5 rfl
theorem dX9_readClause_180 : decode cX9_readClause 180 = .ok (.iload_n 3, 1) := wn_at gdX9_readClause_170 6 rfl
theorem dX9_readClause_181 : decode cX9_readClause 181 = .ok (.ifCond .eq 10, 3) := wn_at gdX9_readClause_170 7 rfl
theorem dX9_readClause_184 : decode cX9_readClause 184 = .ok (.aload_n 0, 1) := wn_at gdX9_readClause_170 8 rfl
theorem dX9_readClause_185 : decode cX9_readClause 185 = .ok (.invokevirtual 83, 3) := wn_at gdX9_readClause_170 9 rfl
theorem gdX9_readClause_188 : ∀ e ∈ ([(188, .goto 7, 3), (191, .aload_n 0, 1), (192, .invokevirtual 86, 3), (195, .ireturn, 1)] : List (Nat × Instr × Nat)), decode cX9_readClause e.1 = .ok e.2 := wn_all _ 188 (by decide +kernel)
theorem dX9_readClause_188 : decode cX9_readClause 188 = .ok (.goto 7, 3) := wn_at gdX9_readClause_188 0 rfl
theorem dX9_readClause_191 : decode cX9_readClause 191 = .ok (.aload_n 0, 1) := wn_at gdX9_readClause_188 1 rfl
theorem dX9_readClause_192 : decode cX9_readClause 192 = .ok (.invokevirtual 86, 3) := wn_at gdX9_readClause_188 2 rfl
theorem dX9_readClause_195 : decode cX9_readClause 195 = .ok (.ireturn, 1) := wn_at gdX9_readClause_188 3 rfl
theorem gdX9_readFloor_0 : ∀ e ∈ ([(0, .aload_n 0, 1), (1, .invokevirtual 89, 3), (4, .lstore_n 1, 1), (5, .lload_n 1, 1), (6, .lconst 0, 1), (7, .lcmp, 1), (8, .ifCond .ge 5, 3), (11, .iconst 0, 1), (12, .ireturn, 1), (13, .aload_n 0, 1)] : List (Nat × Instr × Nat)), decode cX9_readFloor e.1 = .ok e.2 := wn_all _ 0 (by decide +kernel)
theorem dX9_readFloor_0 : decode cX9_readFloor 0 = .ok (.aload_n 0, 1) := wn_at gdX9_readFloor_0 0 rfl
theorem dX9_readFloor_1 : decode cX9_readFloor 1 = .ok (.invokevirtual 89, 3) := wn_at gdX9_readFloor_0 1 rfl
theorem dX9_readFloor_4 : decode cX9_readFloor 4 = .ok (.lstore_n 1, 1) := wn_at gdX9_readFloor_0 2 rfl
theorem dX9_readFloor_5 : decode cX9_readFloor 5 = .ok (.lload_n 1, 1) := wn_at gdX9_readFloor_0 3 rfl
theorem dX9_readFloor_6 : decode cX9_readFloor 6 = .ok (.lconst 0, 1) := wn_at gdX9_readFloor_0 4 rfl
theorem dX9_readFloor_7 : decode cX9_readFloor 7 = .ok (.lcmp, 1) := wn_at gdX9_readFloor_0 5 rfl
theorem dX9_readFloor_8 : decode cX9_readFloor 8 = .ok (.ifCond .ge 5, 3) := wn_at gdX9_readFloor_0 6 rfl
theorem dX9_readFloor_11 : decode cX9_readFloor 11 = .ok (.iconst 0, 1) := wn_at gdX9_readFloor_0 7 rfl
theorem dX9_readFloor_12 : decode cX9_readFloor 12 = .ok (.ireturn, 1) := wn_at gdX9_readFloor_0 8 rfl
theorem dX9_readFloor_13 : decode cX9_readFloor 13 = .ok (.aload_n 0, 1) := wn_at gdX9_readFloor_0 9 rfl
theorem gdX9_readFloor_14 : ∀ e ∈ ([(14, .getfield 15, 3), (17, .getfield 93, 3), (20, .aload_n 0, 1), (21, .getfield 15, 3), (24, .getfield 23, 3), (27, .lload_n 1, 1), (28, .lastore, 1), (29, .aload_n 0, 1), (30, .getfield 15, 3), (33, .dup, 1)] : List (Nat × Instr × Nat)), decode cX9_readFloor e.1 = .ok e.2 := wn_all _ 14 (by decide +kernel)
theorem dX9_readFloor_14 : decode cX9_readFloor 14 = .ok (.getfield 15, 3) := wn_at gdX9_readFloor_14 0 rfl
theorem dX9_readFloor_17 : decode cX9_readFloor 17 = .ok (.getfield 93, 3) := wn_at gdX9_readFloor_14 1 rfl
theorem dX9_readFloor_20 : decode cX9_readFloor 20 = .ok (.aload_n 0, 1) := wn_at gdX9_readFloor_14 2 rfl
theorem dX9_readFloor_21 : decode cX9_readFloor 21 = .ok (.getfield 15, 3) := wn_at gdX9_readFloor_14 3 rfl
theorem dX9_readFloor_24 : decode cX9_readFloor 24 = .ok (.getfield 23, 3) := wn_at gdX9_readFloor_14 4 rfl
theorem dX9_readFloor_27 : decode cX9_readFloor 27 = .ok (.lload_n 1, 1) := wn_at gdX9_readFloor_14 5 rfl
theorem dX9_readFloor_28 : decode cX9_readFloor 28 = .ok (.lastore, 1) := wn_at gdX9_readFloor_14 6 rfl
theorem dX9_readFloor_29 : decode cX9_readFloor 29 = .ok (.aload_n 0, 1) := wn_at gdX9_readFloor_14 7 rfl
theorem dX9_readFloor_30 : decode cX9_readFloor 30 = .ok (.getfield 15, 3) := wn_at gdX9_readFloor_14 8 rfl
theorem dX9_readFloor_33 : decode cX9_readFloor 33 = .ok (.dup, 1) := wn_at gdX9_readFloor_14 9 rfl
theorem gdX9_readFloor_34 : ∀ e ∈ ([(34, .getfield 23, 3), (37, .iconst 1, 1), (38, .iadd, 1), (39, .putfield 23, 3), (42, .iconst 1, 1), (43, .ireturn, 1)] : List (Nat × Instr × Nat)), decode cX9_readFloor e.1 = .ok e.2 := wn_all _ 34 (by decide +kernel)
theorem dX9_readFloor_34 : decode cX9_readFloor 34 = .ok (.getfield 23, 3) := wn_at gdX9_readFloor_34 0 rfl
theorem dX9_readFloor_37 : decode cX9_readFloor 37 = .ok (.iconst 1, 1) := wn_at gdX9_readFloor_34 1 rfl
theorem dX9_readFloor_38 : decode cX9_readFloor 38 = .ok (.iadd, 1) := wn_at gdX9_readFloor_34 2 rfl
theorem dX9_readFloor_39 : decode cX9_readFloor 39 = .ok (.putfield 23, 3) := wn_at gdX9_readFloor_34 3 rfl
theorem dX9_readFloor_42 : decode cX9_readFloor 42 = .ok (.iconst 1, 1) := wn_at gdX9_readFloor_34 4 rfl
theorem dX9_readFloor_43 : decode cX9_readFloor 43 = .ok (.ireturn, 1) := wn_at gdX9_readFloor_34 5 rfl
theorem gdX9_readStair_0 : ∀ e ∈ ([(0, .aload_n 0, 1), (1, .getfield 9, 3), (4, .iconst 0, 1), (5, .aload_n 0, 1), (6, .getfield 15, 3), (9, .getfield 23, 3), (12, .iconst 1, 1), (13, .isub, 1), (14, .invokevirtual 97, 3), (17, .istore_n 1, 1)] : List (Nat × Instr × Nat)), decode cX9_readStair e.1 = .ok e.2 := wn_all _ 0 (by decide +kernel)
theorem dX9_readStair_0 : decode cX9_readStair 0 = .ok (.aload_n 0, 1) := wn_at gdX9_readStair_0 0 rfl
theorem dX9_readStair_1 : decode cX9_readStair 1 = .ok (.getfield 9, 3) := wn_at gdX9_readStair_0 1 rfl
theorem dX9_readStair_4 : decode cX9_readStair 4 = .ok (.iconst 0, 1) := wn_at gdX9_readStair_0 2 rfl
theorem dX9_readStair_5 : decode cX9_readStair 5 = .ok (.aload_n 0, 1) := wn_at gdX9_readStair_0 3 rfl
theorem dX9_readStair_6 : decode cX9_readStair 6 = .ok (.getfield 15, 3) := wn_at gdX9_readStair_0 4 rfl
theorem dX9_readStair_9 : decode cX9_readStair 9 = .ok (.getfield 23, 3) := wn_at gdX9_readStair_0 5 rfl
theorem dX9_readStair_12 : decode cX9_readStair 12 = .ok (.iconst 1, 1) := wn_at gdX9_readStair_0 6 rfl
theorem dX9_readStair_13 : decode cX9_readStair 13 = .ok (.isub, 1) := wn_at gdX9_readStair_0 7 rfl
theorem dX9_readStair_14 : decode cX9_readStair 14 = .ok (.invokevirtual 97, 3) := wn_at gdX9_readStair_0 8 rfl
theorem dX9_readStair_17 : decode cX9_readStair 17 = .ok (.istore_n 1, 1) := wn_at gdX9_readStair_0 9 rfl
theorem gdX9_readStair_18 : ∀ e ∈ ([(18, .iload_n 1, 1), (19, .ifCond .ge 5, 3), (22, .iconst 0, 1), (23, .ireturn, 1), (24, .aload_n 0, 1), (25, .getfield 9, 3), (28, .iconst 0, 1), (29, .aload_n 0, 1), (30, .getfield 15, 3), (33, .getfield 23, 3)] : List (Nat × Instr × Nat)), decode cX9_readStair e.1 = .ok e.2 := wn_all _ 18 (by decide +kernel)
theorem dX9_readStair_18 : decode cX9_readStair 18 = .ok (.iload_n 1, 1) := wn_at gdX9_readStair_18 0 rfl
theorem dX9_readStair_19 : decode cX9_readStair 19 = .ok (.ifCond .ge 5, 3) := wn_at gdX9_readStair_18 1 rfl
theorem dX9_readStair_22 : decode cX9_readStair 22 = .ok (.iconst 0, 1) := wn_at gdX9_readStair_18 2 rfl
theorem dX9_readStair_23 : decode cX9_readStair 23 = .ok (.ireturn, 1) := wn_at gdX9_readStair_18 3 rfl
theorem dX9_readStair_24 : decode cX9_readStair 24 = .ok (.aload_n 0, 1) := wn_at gdX9_readStair_18 4 rfl
theorem dX9_readStair_25 : decode cX9_readStair 25 = .ok (.getfield 9, 3) := wn_at gdX9_readStair_18 5 rfl
theorem dX9_readStair_28 : decode cX9_readStair 28 = .ok (.iconst 0, 1) := wn_at gdX9_readStair_18 6 rfl
theorem dX9_readStair_29 : decode cX9_readStair 29 = .ok (.aload_n 0, 1) := wn_at gdX9_readStair_18 7 rfl
theorem dX9_readStair_30 : decode cX9_readStair 30 = .ok (.getfield 15, 3) := wn_at gdX9_readStair_18 8 rfl
theorem dX9_readStair_33 : decode cX9_readStair 33 = .ok (.getfield 23, 3) := wn_at gdX9_readStair_18 9 rfl
theorem gdX9_readStair_36 : ∀ e ∈ ([(36, .iconst 1, 1), (37, .isub, 1), (38, .invokevirtual 97, 3), (41, .istore_n 2, 1), (42, .iload_n 2, 1), (43, .ifCond .ge 5, 3), (46, .iconst 0, 1), (47, .ireturn, 1), (48, .iload_n 1, 1), (49, .iload_n 2, 1)] : List (Nat × Instr × Nat)), decode cX9_readStair e.1 = .ok e.2 := wn_all _ 36 (by decide +kernel)
theorem dX9_readStair_36 : decode cX9_readStair 36 = .ok (.iconst 1, 1) := wn_at gdX9_readStair_36 0 rfl
theorem dX9_readStair_37 : decode cX9_readStair 37 = .ok (.isub, 1) := wn_at gdX9_readStair_36 1 rfl
theorem dX9_readStair_38 : decode cX9_readStair 38 = .ok (.invokevirtual 97, 3) := wn_at gdX9_readStair_36 2 rfl
theorem dX9_readStair_41 : decode cX9_readStair 41 = .ok (.istore_n 2, 1) := wn_at gdX9_readStair_36 3 rfl
theorem dX9_readStair_42 : decode cX9_readStair 42 = .ok (.iload_n 2, 1) := wn_at gdX9_readStair_36 4 rfl
theorem dX9_readStair_43 : decode cX9_readStair 43 = .ok (.ifCond .ge 5, 3) := wn_at gdX9_readStair_36 5 rfl
theorem dX9_readStair_46 : decode cX9_readStair 46 = .ok (.iconst 0, 1) := wn_at gdX9_readStair_36 6 rfl
theorem dX9_readStair_47 : decode cX9_readStair 47 = .ok (.ireturn, 1) := wn_at gdX9_readStair_36 7 rfl
theorem dX9_readStair_48 : decode cX9_readStair 48 = .ok (.iload_n 1, 1) := wn_at gdX9_readStair_36 8 rfl
theorem dX9_readStair_49 : decode cX9_readStair 49 = .ok (.iload_n 2, 1) := wn_at gdX9_readStair_36 9 rfl
theorem gdX9_readStair_50 : ∀ e ∈ ([(50, .if_icmp .ne 19, 3), (53, .aload_n 0, 1), (54, .getfield 9, 3), (57, .aload_n 0, 1), (58, .getfield 9, 3), (61, .getfield 77, 3), (64, .iconst 1, 1), (65, .invokevirtual 63, 3), (68, .ireturn, 1), (69, .aload_n 0, 1)] : List (Nat × Instr × Nat)), decode cX9_readStair e.1 = .ok e.2 := wn_all _ 50 (by decide +kernel)
theorem dX9_readStair_50 : decode cX9_readStair 50 = .ok (.if_icmp .ne 19, 3) := wn_at gdX9_readStair_50 0 rfl
theorem dX9_readStair_53 : decode cX9_readStair 53 = .ok (.aload_n 0, 1) := wn_at gdX9_readStair_50 1 rfl
theorem dX9_readStair_54 : decode cX9_readStair 54 = .ok (.getfield 9, 3) := wn_at gdX9_readStair_50 2 rfl
theorem dX9_readStair_57 : decode cX9_readStair 57 = .ok (.aload_n 0, 1) := wn_at gdX9_readStair_50 3 rfl
theorem dX9_readStair_58 : decode cX9_readStair 58 = .ok (.getfield 9, 3) := wn_at gdX9_readStair_50 4 rfl
theorem dX9_readStair_61 : decode cX9_readStair 61 = .ok (.getfield 77, 3) := wn_at gdX9_readStair_50 5 rfl
theorem dX9_readStair_64 : decode cX9_readStair 64 = .ok (.iconst 1, 1) := wn_at gdX9_readStair_50 6 rfl
theorem dX9_readStair_65 : decode cX9_readStair 65 = .ok (.invokevirtual 63, 3) := wn_at gdX9_readStair_50 7 rfl
theorem dX9_readStair_68 : decode cX9_readStair 68 = .ok (.ireturn, 1) := wn_at gdX9_readStair_50 8 rfl
theorem dX9_readStair_69 : decode cX9_readStair 69 = .ok (.aload_n 0, 1) := wn_at gdX9_readStair_50 9 rfl
theorem gdX9_readStair_70 : ∀ e ∈ ([(70, .getfield 9, 3), (73, .iconst 1, 1), (74, .bipush 9, 2), (76, .invokevirtual 97, 3), (79, .istore_n 3, 1), (80, .iload_n 3, 1), (81, .ifCond .ge 5, 3), (84, .iconst 0, 1), (85, .ireturn, 1), (86, .aload_n 0, 1)] : List (Nat × Instr × Nat)), decode cX9_readStair e.1 = .ok e.2 := wn_all _ 70 (by decide +kernel)
theorem dX9_readStair_70 : decode cX9_readStair 70 = .ok (.getfield 9, 3) := wn_at gdX9_readStair_70 0 rfl
theorem dX9_readStair_73 : decode cX9_readStair 73 = .ok (.iconst 1, 1) := wn_at gdX9_readStair_70 1 rfl
theorem dX9_readStair_74 : decode cX9_readStair 74 = .ok (.bipush 9, 2) := wn_at gdX9_readStair_70 2 rfl
theorem dX9_readStair_76 : decode cX9_readStair 76 = .ok (.invokevirtual 97, 3) := wn_at gdX9_readStair_70 3 rfl
theorem dX9_readStair_79 : decode cX9_readStair 79 = .ok (.istore_n 3, 1) := wn_at gdX9_readStair_70 4 rfl
theorem dX9_readStair_80 : decode cX9_readStair 80 = .ok (.iload_n 3, 1) := wn_at gdX9_readStair_70 5 rfl
theorem dX9_readStair_81 : decode cX9_readStair 81 = .ok (.ifCond .ge 5, 3) := wn_at gdX9_readStair_70 6 rfl
theorem dX9_readStair_84 : decode cX9_readStair 84 = .ok (.iconst 0, 1) := wn_at gdX9_readStair_70 7 rfl
theorem dX9_readStair_85 : decode cX9_readStair 85 = .ok (.ireturn, 1) := wn_at gdX9_readStair_70 8 rfl
theorem dX9_readStair_86 : decode cX9_readStair 86 = .ok (.aload_n 0, 1) := wn_at gdX9_readStair_70 9 rfl
theorem gdX9_readStair_87 : ∀ e ∈ ([(87, .invokevirtual 89, 3), (90, .lstore 4, 2), (92, .lload 4, 2), (94, .lconst 0, 1), (95, .lcmp, 1), (96, .ifCond .ge 5, 3), (99, .iconst 0, 1), (100, .ireturn, 1), (101, .aload_n 0, 1), (102, .getfield 15, 3)] : List (Nat × Instr × Nat)), decode cX9_readStair e.1 = .ok e.2 := wn_all _ 87 (by decide +kernel)
theorem dX9_readStair_87 : decode cX9_readStair 87 = .ok (.invokevirtual 89, 3) := wn_at gdX9_readStair_87 0 rfl
theorem dX9_readStair_90 : decode cX9_readStair 90 = .ok (.lstore 4, 2) := wn_at gdX9_readStair_87 1 rfl
theorem dX9_readStair_92 : decode cX9_readStair 92 = .ok (.lload 4, 2) := wn_at gdX9_readStair_87 2 rfl
theorem dX9_readStair_94 : decode cX9_readStair 94 = .ok (.lconst 0, 1) := wn_at gdX9_readStair_87 3 rfl
theorem dX9_readStair_95 : decode cX9_readStair 95 = .ok (.lcmp, 1) := wn_at gdX9_readStair_87 4 rfl
theorem dX9_readStair_96 : decode cX9_readStair 96 = .ok (.ifCond .ge 5, 3) := wn_at gdX9_readStair_87 5 rfl
theorem dX9_readStair_99 : decode cX9_readStair 99 = .ok (.iconst 0, 1) := wn_at gdX9_readStair_87 6 rfl
theorem dX9_readStair_100 : decode cX9_readStair 100 = .ok (.ireturn, 1) := wn_at gdX9_readStair_87 7 rfl
theorem dX9_readStair_101 : decode cX9_readStair 101 = .ok (.aload_n 0, 1) := wn_at gdX9_readStair_87 8 rfl
theorem dX9_readStair_102 : decode cX9_readStair 102 = .ok (.getfield 15, 3) := wn_at gdX9_readStair_87 9 rfl
theorem gdX9_readStair_105 : ∀ e ∈ ([(105, .iload_n 1, 1), (106, .iload_n 2, 1), (107, .iload_n 3, 1), (108, .lload 4, 2), (110, .invokevirtual 101, 3), (113, .iconst 1, 1), (114, .ireturn, 1)] : List (Nat × Instr × Nat)), decode cX9_readStair e.1 = .ok e.2 := wn_all _ 105 (by decide +kernel)
theorem dX9_readStair_105 : decode cX9_readStair 105 = .ok (.iload_n 1, 1) := wn_at gdX9_readStair_105 0 rfl
theorem dX9_readStair_106 : decode cX9_readStair 106 = .ok (.iload_n 2, 1) := wn_at gdX9_readStair_105 1 rfl
theorem dX9_readStair_107 : decode cX9_readStair 107 = .ok (.iload_n 3, 1) := wn_at gdX9_readStair_105 2 rfl
theorem dX9_readStair_108 : decode cX9_readStair 108 = .ok (.lload 4, 2) := wn_at gdX9_readStair_105 3 rfl
theorem dX9_readStair_110 : decode cX9_readStair 110 = .ok (.invokevirtual 101, 3) := wn_at gdX9_readStair_105 4 rfl
theorem dX9_readStair_113 : decode cX9_readStair 113 = .ok (.iconst 1, 1) := wn_at gdX9_readStair_105 5 rfl
theorem dX9_readStair_114 : decode cX9_readStair 114 = .ok (.ireturn, 1) := wn_at gdX9_readStair_105 6 rfl
theorem gdX9_readThing_0 : ∀ e ∈ ([(0, .aload_n 0, 1), (1, .getfield 9, 3), (4, .iconst 0, 1), (5, .aload_n 0, 1), (6, .getfield 15, 3), (9, .getfield 23, 3), (12, .iconst 1, 1), (13, .isub, 1), (14, .invokevirtual 97, 3), (17, .istore_n 1, 1)] : List (Nat × Instr × Nat)), decode cX9_readThing e.1 = .ok e.2 := wn_all _ 0 (by decide +kernel)
theorem dX9_readThing_0 : decode cX9_readThing 0 = .ok (.aload_n 0, 1) := wn_at gdX9_readThing_0 0 rfl
theorem dX9_readThing_1 : decode cX9_readThing 1 = .ok (.getfield 9, 3) := wn_at gdX9_readThing_0 1 rfl
theorem dX9_readThing_4 : decode cX9_readThing 4 = .ok (.iconst 0, 1) := wn_at gdX9_readThing_0 2 rfl
theorem dX9_readThing_5 : decode cX9_readThing 5 = .ok (.aload_n 0, 1) := wn_at gdX9_readThing_0 3 rfl
theorem dX9_readThing_6 : decode cX9_readThing 6 = .ok (.getfield 15, 3) := wn_at gdX9_readThing_0 4 rfl
theorem dX9_readThing_9 : decode cX9_readThing 9 = .ok (.getfield 23, 3) := wn_at gdX9_readThing_0 5 rfl
theorem dX9_readThing_12 : decode cX9_readThing 12 = .ok (.iconst 1, 1) := wn_at gdX9_readThing_0 6 rfl
theorem dX9_readThing_13 : decode cX9_readThing 13 = .ok (.isub, 1) := wn_at gdX9_readThing_0 7 rfl
theorem dX9_readThing_14 : decode cX9_readThing 14 = .ok (.invokevirtual 97, 3) := wn_at gdX9_readThing_0 8 rfl
theorem dX9_readThing_17 : decode cX9_readThing 17 = .ok (.istore_n 1, 1) := wn_at gdX9_readThing_0 9 rfl
theorem gdX9_readThing_18 : ∀ e ∈ ([(18, .iload_n 1, 1), (19, .ifCond .ge 5, 3), (22, .iconst 0, 1), (23, .ireturn, 1), (24, .aload_n 0, 1), (25, .getfield 19, 3), (28, .iload_n 1, 1), (29, .invokevirtual 105, 3), (32, .iconst 1, 1), (33, .ireturn, 1)] : List (Nat × Instr × Nat)), decode cX9_readThing e.1 = .ok e.2 := wn_all _ 18 (by decide +kernel)
theorem dX9_readThing_18 : decode cX9_readThing 18 = .ok (.iload_n 1, 1) := wn_at gdX9_readThing_18 0 rfl
theorem dX9_readThing_19 : decode cX9_readThing 19 = .ok (.ifCond .ge 5, 3) := wn_at gdX9_readThing_18 1 rfl
theorem dX9_readThing_22 : decode cX9_readThing 22 = .ok (.iconst 0, 1) := wn_at gdX9_readThing_18 2 rfl
theorem dX9_readThing_23 : decode cX9_readThing 23 = .ok (.ireturn, 1) := wn_at gdX9_readThing_18 3 rfl
theorem dX9_readThing_24 : decode cX9_readThing 24 = .ok (.aload_n 0, 1) := wn_at gdX9_readThing_18 4 rfl
theorem dX9_readThing_25 : decode cX9_readThing 25 = .ok (.getfield 19, 3) := wn_at gdX9_readThing_18 5 rfl
theorem dX9_readThing_28 : decode cX9_readThing 28 = .ok (.iload_n 1, 1) := wn_at gdX9_readThing_18 6 rfl
theorem dX9_readThing_29 : decode cX9_readThing 29 = .ok (.invokevirtual 105, 3) := wn_at gdX9_readThing_18 7 rfl
theorem dX9_readThing_32 : decode cX9_readThing 32 = .ok (.iconst 1, 1) := wn_at gdX9_readThing_18 8 rfl
theorem dX9_readThing_33 : decode cX9_readThing 33 = .ok (.ireturn, 1) := wn_at gdX9_readThing_18 9 rfl
theorem gdX9_readPace_0 : ∀ e ∈ ([(0, .aload_n 0, 1), (1, .getfield 9, 3), (4, .iconst 1, 1), (5, .bipush 20, 2), (7, .invokevirtual 97, 3), (10, .istore_n 1, 1), (11, .iload_n 1, 1), (12, .ifCond .ge 7, 3), (15, .ldc2_w 109, 3), (18, .lreturn, 1)] : List (Nat × Instr × Nat)), decode cX9_readPace e.1 = .ok e.2 := wn_all _ 0 (by decide +kernel)
theorem dX9_readPace_0 : decode cX9_readPace 0 = .ok (.aload_n 0, 1) := wn_at gdX9_readPace_0 0 rfl
theorem dX9_readPace_1 : decode cX9_readPace 1 = .ok (.getfield 9, 3) := wn_at gdX9_readPace_0 1 rfl
theorem dX9_readPace_4 : decode cX9_readPace 4 = .ok (.iconst 1, 1) := wn_at gdX9_readPace_0 2 rfl
theorem dX9_readPace_5 : decode cX9_readPace 5 = .ok (.bipush 20, 2) := wn_at gdX9_readPace_0 3 rfl
theorem dX9_readPace_7 : decode cX9_readPace 7 = .ok (.invokevirtual 97, 3) := wn_at gdX9_readPace_0 4 rfl
theorem dX9_readPace_10 : decode cX9_readPace 10 = .ok (.istore_n 1, 1) := wn_at gdX9_readPace_0 5 rfl
theorem dX9_readPace_11 : decode cX9_readPace 11 = .ok (.iload_n 1, 1) := wn_at gdX9_readPace_0 6 rfl
theorem dX9_readPace_12 : decode cX9_readPace 12 = .ok (.ifCond .ge 7, 3) := wn_at gdX9_readPace_0 7 rfl
theorem dX9_readPace_15 : decode cX9_readPace 15 = .ok (.ldc2_w 109, 3) := wn_at gdX9_readPace_0 8 rfl
theorem dX9_readPace_18 : decode cX9_readPace 18 = .ok (.lreturn, 1) := wn_at gdX9_readPace_0 9 rfl
theorem gdX9_readPace_19 : ∀ e ∈ ([(19, .aload_n 0, 1), (20, .getfield 9, 3), (23, .iconst 1, 1), (24, .bipush 20, 2), (26, .invokevirtual 97, 3), (29, .istore_n 2, 1), (30, .iload_n 2, 1), (31, .ifCond .gt 7, 3), (34, .ldc2_w 109, 3), (37, .lreturn, 1)] : List (Nat × Instr × Nat)), decode cX9_readPace e.1 = .ok e.2 := wn_all _ 19 (by decide +kernel)
theorem dX9_readPace_19 : decode cX9_readPace 19 = .ok (.aload_n 0, 1) := wn_at gdX9_readPace_19 0 rfl
theorem dX9_readPace_20 : decode cX9_readPace 20 = .ok (.getfield 9, 3) := wn_at gdX9_readPace_19 1 rfl
theorem dX9_readPace_23 : decode cX9_readPace 23 = .ok (.iconst 1, 1) := wn_at gdX9_readPace_19 2 rfl
theorem dX9_readPace_24 : decode cX9_readPace 24 = .ok (.bipush 20, 2) := wn_at gdX9_readPace_19 3 rfl
theorem dX9_readPace_26 : decode cX9_readPace 26 = .ok (.invokevirtual 97, 3) := wn_at gdX9_readPace_19 4 rfl
theorem dX9_readPace_29 : decode cX9_readPace 29 = .ok (.istore_n 2, 1) := wn_at gdX9_readPace_19 5 rfl
theorem dX9_readPace_30 : decode cX9_readPace 30 = .ok (.iload_n 2, 1) := wn_at gdX9_readPace_19 6 rfl
theorem dX9_readPace_31 : decode cX9_readPace 31 = .ok (.ifCond .gt 7, 3) := wn_at gdX9_readPace_19 7 rfl
theorem dX9_readPace_34 : decode cX9_readPace 34 = .ok (.ldc2_w 109, 3) := wn_at gdX9_readPace_19 8 rfl
theorem dX9_readPace_37 : decode cX9_readPace 37 = .ok (.lreturn, 1) := wn_at gdX9_readPace_19 9 rfl
theorem gdX9_readPace_38 : ∀ e ∈ ([(38, .iload_n 1, 1), (39, .i2l, 1), (40, .ldc2_w 111, 3), (43, .iload_n 2, 1), (44, .i2l, 1), (45, .ldiv, 1), (46, .lmul, 1), (47, .lreturn, 1)] : List (Nat × Instr × Nat)), decode cX9_readPace e.1 = .ok e.2 := wn_all _ 38 (by decide +kernel)
theorem dX9_readPace_38 : decode cX9_readPace 38 = .ok (.iload_n 1, 1) := wn_at gdX9_readPace_38 0 rfl
theorem dX9_readPace_39 : decode cX9_readPace 39 = .ok (.i2l, 1) := wn_at gdX9_readPace_38 1 rfl
theorem dX9_readPace_40 : decode cX9_readPace 40 = .ok (.ldc2_w 111, 3) := wn_at gdX9_readPace_38 2 rfl
theorem dX9_readPace_43 : decode cX9_readPace 43 = .ok (.iload_n 2, 1) := wn_at gdX9_readPace_38 3 rfl
theorem dX9_readPace_44 : decode cX9_readPace 44 = .ok (.i2l, 1) := wn_at gdX9_readPace_38 4 rfl
theorem dX9_readPace_45 : decode cX9_readPace 45 = .ok (.ldiv, 1) := wn_at gdX9_readPace_38 5 rfl
theorem dX9_readPace_46 : decode cX9_readPace 46 = .ok (.lmul, 1) := wn_at gdX9_readPace_38 6 rfl
theorem dX9_readPace_47 : decode cX9_readPace 47 = .ok (.lreturn, 1) := wn_at gdX9_readPace_38 7 rfl
theorem gdX10_init_0 : ∀ e ∈ ([(0, .aload_n 0, 1), (1, .invokespecial 3, 3), (4, .aload_n 0, 1), (5, .new 9, 3), (8, .dup, 1), (9, .invokespecial 11, 3), (12, .putfield 12, 3), (15, .aload_n 0, 1), (16, .new 16, 3), (19, .dup, 1)] : List (Nat × Instr × Nat)), decode cX10_init e.1 = .ok e.2 := wn_all _ 0 (by decide +kernel)
theorem dX10_init_0 : decode cX10_init 0 = .ok (.aload_n 0, 1) := wn_at gdX10_init_0 0 rfl
theorem dX10_init_1 : decode cX10_init 1 = .ok (.invokespecial 3, 3) := wn_at gdX10_init_0 1 rfl
theorem dX10_init_4 : decode cX10_init 4 = .ok (.aload_n 0, 1) := wn_at gdX10_init_0 2 rfl
theorem dX10_init_5 : decode cX10_init 5 = .ok (.new 9, 3) := wn_at gdX10_init_0 3 rfl
theorem dX10_init_8 : decode cX10_init 8 = .ok (.dup, 1) := wn_at gdX10_init_0 4 rfl
theorem dX10_init_9 : decode cX10_init 9 = .ok (.invokespecial 11, 3) := wn_at gdX10_init_0 5 rfl
theorem dX10_init_12 : decode cX10_init 12 = .ok (.putfield 12, 3) := wn_at gdX10_init_0 6 rfl
theorem dX10_init_15 : decode cX10_init 15 = .ok (.aload_n 0, 1) := wn_at gdX10_init_0 7 rfl
theorem dX10_init_16 : decode cX10_init 16 = .ok (.new 16, 3) := wn_at gdX10_init_0 8 rfl
theorem dX10_init_19 : decode cX10_init 19 = .ok (.dup, 1) := wn_at gdX10_init_0 9 rfl
theorem gdX10_init_20 : ∀ e ∈ ([(20, .invokespecial 18, 3), (23, .putfield 19, 3), (26, .aload_n 0, 1), (27, .iconst 4, 1), (28, .anewarray 16, 3), (31, .putfield 23, 3), (34, .aload_n 0, 1), (35, .bipush 6, 2), (37, .anewarray 27, 3), (40, .putfield 29, 3)] : List (Nat × Instr × Nat)), decode cX10_init e.1 = .ok e.2 := wn_all _ 20 (by decide +kernel)
theorem dX10_init_20 : decode cX10_init 20 = .ok (.invokespecial 18, 3) := wn_at gdX10_init_20 0 rfl
theorem dX10_init_23 : decode cX10_init 23 = .ok (.putfield 19, 3) := wn_at gdX10_init_20 1 rfl
theorem dX10_init_26 : decode cX10_init 26 = .ok (.aload_n 0, 1) := wn_at gdX10_init_20 2 rfl
theorem dX10_init_27 : decode cX10_init 27 = .ok (.iconst 4, 1) := wn_at gdX10_init_20 3 rfl
theorem dX10_init_28 : decode cX10_init 28 = .ok (.anewarray 16, 3) := wn_at gdX10_init_20 4 rfl
theorem dX10_init_31 : decode cX10_init 31 = .ok (.putfield 23, 3) := wn_at gdX10_init_20 5 rfl
theorem dX10_init_34 : decode cX10_init 34 = .ok (.aload_n 0, 1) := wn_at gdX10_init_20 6 rfl
theorem dX10_init_35 : decode cX10_init 35 = .ok (.bipush 6, 2) := wn_at gdX10_init_20 7 rfl
theorem dX10_init_37 : decode cX10_init 37 = .ok (.anewarray 27, 3) := wn_at gdX10_init_20 8 rfl
theorem dX10_init_40 : decode cX10_init 40 = .ok (.putfield 29, 3) := wn_at gdX10_init_20 9 rfl
theorem gdX10_init_43 : ∀ e ∈ ([(43, .aload_n 0, 1), (44, .new 33, 3), (47, .dup, 1), (48, .invokespecial 35, 3), (51, .putfield 36, 3), (54, .aload_n 0, 1), (55, .new 40, 3), (58, .dup, 1), (59, .invokespecial 42, 3), (62, .putfield 43, 3)] : List (Nat × Instr × Nat)), decode cX10_init e.1 = .ok e.2 := wn_all _ 43 (by decide +kernel)
theorem dX10_init_43 : decode cX10_init 43 = .ok (.aload_n 0, 1) := wn_at gdX10_init_43 0 rfl
theorem dX10_init_44 : decode cX10_init 44 = .ok (.new 33, 3) := wn_at gdX10_init_43 1 rfl
theorem dX10_init_47 : decode cX10_init 47 = .ok (.dup, 1) := wn_at gdX10_init_43 2 rfl
theorem dX10_init_48 : decode cX10_init 48 = .ok (.invokespecial 35, 3) := wn_at gdX10_init_43 3 rfl
theorem dX10_init_51 : decode cX10_init 51 = .ok (.putfield 36, 3) := wn_at gdX10_init_43 4 rfl
theorem dX10_init_54 : decode cX10_init 54 = .ok (.aload_n 0, 1) := wn_at gdX10_init_43 5 rfl
theorem dX10_init_55 : decode cX10_init 55 = .ok (.new 40, 3) := wn_at gdX10_init_43 6 rfl
theorem dX10_init_58 : decode cX10_init 58 = .ok (.dup, 1) := wn_at gdX10_init_43 7 rfl
theorem dX10_init_59 : decode cX10_init 59 = .ok (.invokespecial 42, 3) := wn_at gdX10_init_43 8 rfl
theorem dX10_init_62 : decode cX10_init 62 = .ok (.putfield 43, 3) := wn_at gdX10_init_43 9 rfl
theorem gdX10_init_65 : ∀ e ∈ ([(65, .aload_n 0, 1), (66, .new 47, 3), (69, .dup, 1), (70, .aload_n 0, 1), (71, .getfield 12, 3), (74, .aload_n 0, 1), (75, .getfield 36, 3), (78, .aload_n 0, 1), (79, .getfield 43, 3), (82, .invokespecial 49, 3)] : List (Nat × Instr × Nat)), decode cX10_init e.1 = .ok e.2 := wn_all _ 65 (by decide +kernel)
theorem dX10_init_65 : decode cX10_init 65 = .ok (.aload_n 0, 1) := wn_at gdX10_init_65 0 rfl
theorem dX10_init_66 : decode cX10_init 66 = .ok (.new 47, 3) := wn_at gdX10_init_65 1 rfl
theorem dX10_init_69 : decode cX10_init 69 = .ok (.dup, 1) := wn_at gdX10_init_65 2 rfl
theorem dX10_init_70 : decode cX10_init 70 = .ok (.aload_n 0, 1) := wn_at gdX10_init_65 3 rfl
theorem dX10_init_71 : decode cX10_init 71 = .ok (.getfield 12, 3) := wn_at gdX10_init_65 4 rfl
theorem dX10_init_74 : decode cX10_init 74 = .ok (.aload_n 0, 1) := wn_at gdX10_init_65 5 rfl
theorem dX10_init_75 : decode cX10_init 75 = .ok (.getfield 36, 3) := wn_at gdX10_init_65 6 rfl
theorem dX10_init_78 : decode cX10_init 78 = .ok (.aload_n 0, 1) := wn_at gdX10_init_65 7 rfl
theorem dX10_init_79 : decode cX10_init 79 = .ok (.getfield 43, 3) := wn_at gdX10_init_65 8 rfl
theorem dX10_init_82 : decode cX10_init 82 = .ok (.invokespecial 49, 3) := wn_at gdX10_init_65 9 rfl
theorem gdX10_init_85 : ∀ e ∈ ([(85, .putfield 52, 3), (88, .aload_n 0, 1), (89, .new 56, 3), (92, .dup, 1), (93, .aload_n 0, 1), (94, .getfield 12, 3), (97, .invokespecial 58, 3), (100, .putfield 61, 3), (103, .aload_n 0, 1), (104, .new 65, 3)] : List (Nat × Instr × Nat)), decode cX10_init e.1 = .ok e.2 := wn_all _ 85 (by decide +kernel)
theorem dX10_init_85 : decode cX10_init 85 = .ok (.putfield 52, 3) := wn_at gdX10_init_85 0 rfl
theorem dX10_init_88 : decode cX10_init 88 = .ok (.aload_n 0, 1) := wn_at gdX10_init_85 1 rfl
theorem dX10_init_89 : decode cX10_init 89 = .ok (.new 56, 3) := wn_at gdX10_init_85 2 rfl
theorem dX10_init_92 : decode cX10_init 92 = .ok (.dup, 1) := wn_at gdX10_init_85 3 rfl
theorem dX10_init_93 : decode cX10_init 93 = .ok (.aload_n 0, 1) := wn_at gdX10_init_85 4 rfl
theorem dX10_init_94 : decode cX10_init 94 = .ok (.getfield 12, 3) := wn_at gdX10_init_85 5 rfl
theorem dX10_init_97 : decode cX10_init 97 = .ok (.invokespecial 58, 3) := wn_at gdX10_init_85 6 rfl
theorem dX10_init_100 : decode cX10_init 100 = .ok (.putfield 61, 3) := wn_at gdX10_init_85 7 rfl
theorem dX10_init_103 : decode cX10_init 103 = .ok (.aload_n 0, 1) := wn_at gdX10_init_85 8 rfl
theorem dX10_init_104 : decode cX10_init 104 = .ok (.new 65, 3) := wn_at gdX10_init_85 9 rfl
theorem gdX10_init_107 : ∀ e ∈ ([(107, .dup, 1), (108, .invokespecial 67, 3), (111, .putfield 68, 3), (114, .aload_n 0, 1), (115, .new 72, 3), (118, .dup, 1), (119, .invokespecial 74, 3), (122, .putfield 75, 3), (125, .aload_n 0, 1), (126, .iconst 0, 1)] : List (Nat × Instr × Nat)), decode cX10_init e.1 = .ok e.2 := wn_all _ 107 (by decide +kernel)
theorem dX10_init_107 : decode cX10_init 107 = .ok (.dup, 1) := wn_at gdX10_init_107 0 rfl
theorem dX10_init_108 : decode cX10_init 108 = .ok (.invokespecial 67, 3) := wn_at gdX10_init_107 1 rfl
theorem dX10_init_111 : decode cX10_init 111 = .ok (.putfield 68, 3) := wn_at gdX10_init_107 2 rfl
theorem dX10_init_114 : decode cX10_init 114 = .ok (.aload_n 0, 1) := wn_at gdX10_init_107 3 rfl
theorem dX10_init_115 : decode cX10_init 115 = .ok (.new 72, 3) := wn_at gdX10_init_107 4 rfl
theorem dX10_init_118 : decode cX10_init 118 = .ok (.dup, 1) := wn_at gdX10_init_107 5 rfl
theorem dX10_init_119 : decode cX10_init 119 = .ok (.invokespecial 74, 3) := wn_at gdX10_init_107 6 rfl
theorem dX10_init_122 : decode cX10_init 122 = .ok (.putfield 75, 3) := wn_at gdX10_init_107 7 rfl
theorem dX10_init_125 : decode cX10_init 125 = .ok (.aload_n 0, 1) := wn_at gdX10_init_107 8 rfl
theorem dX10_init_126 : decode cX10_init 126 = .ok (.iconst 0, 1) := wn_at gdX10_init_107 9 rfl
theorem gdX10_init_127 : ∀ e ∈ ([(127, .putfield 79, 3), (130, .iconst 0, 1), (131, .istore_n 1, 1), (132, .iload_n 1, 1), (133, .iconst 4, 1), (134, .if_icmp .ge 22, 3), (137, .aload_n 0, 1), (138, .getfield 23, 3), (141, .iload_n 1, 1), (142, .new 16, 3)] : List (Nat × Instr × Nat)), decode cX10_init e.1 = .ok e.2 := wn_all _ 127 (by decide +kernel)
theorem dX10_init_127 : decode cX10_init 127 = .ok (.putfield 79, 3) := wn_at gdX10_init_127 0 rfl
theorem dX10_init_130 : decode cX10_init 130 = .ok (.iconst 0, 1) := wn_at gdX10_init_127 1 rfl
theorem dX10_init_131 : decode cX10_init 131 = .ok (.istore_n 1, 1) := wn_at gdX10_init_127 2 rfl
theorem dX10_init_132 : decode cX10_init 132 = .ok (.iload_n 1, 1) := wn_at gdX10_init_127 3 rfl
theorem dX10_init_133 : decode cX10_init 133 = .ok (.iconst 4, 1) := wn_at gdX10_init_127 4 rfl
theorem dX10_init_134 : decode cX10_init 134 = .ok (.if_icmp .ge 22, 3) := wn_at gdX10_init_127 5 rfl
theorem dX10_init_137 : decode cX10_init 137 = .ok (.aload_n 0, 1) := wn_at gdX10_init_127 6 rfl
theorem dX10_init_138 : decode cX10_init 138 = .ok (.getfield 23, 3) := wn_at gdX10_init_127 7 rfl
theorem dX10_init_141 : decode cX10_init 141 = .ok (.iload_n 1, 1) := wn_at gdX10_init_127 8 rfl
theorem dX10_init_142 : decode cX10_init 142 = .ok (.new 16, 3) := wn_at gdX10_init_127 9 rfl
theorem gdX10_init_145 : ∀ e ∈ ([(145, .dup, 1), (146, .invokespecial 18, 3), (149, .aastore, 1), (150, .iinc 1 1, 3), (153, .goto (-21), 3), (156, .iconst 0, 1), (157, .istore_n 1, 1), (158, .iload_n 1, 1), (159, .bipush 6, 2), (161, .if_icmp .ge 22, 3)] : List (Nat × Instr × Nat)), decode cX10_init e.1 = .ok e.2 := wn_all _ 145 (by decide +kernel)
theorem dX10_init_145 : decode cX10_init 145 = .ok (.dup, 1) := wn_at gdX10_init_145 0 rfl
theorem dX10_init_146 : decode cX10_init 146 = .ok (.invokespecial 18, 3) := wn_at gdX10_init_145 1 rfl
theorem dX10_init_149 : decode cX10_init 149 = .ok (.aastore, 1) := wn_at gdX10_init_145 2 rfl
theorem dX10_init_150 : decode cX10_init 150 = .ok (.iinc 1 1, 3) := wn_at gdX10_init_145 3 rfl
theorem dX10_init_153 : decode cX10_init 153 = .ok (.goto (-21), 3) := wn_at gdX10_init_145 4 rfl
theorem dX10_init_156 : decode cX10_init 156 = .ok (.iconst 0, 1) := wn_at gdX10_init_145 5 rfl
theorem dX10_init_157 : decode cX10_init 157 = .ok (.istore_n 1, 1) := wn_at gdX10_init_145 6 rfl
theorem dX10_init_158 : decode cX10_init 158 = .ok (.iload_n 1, 1) := wn_at gdX10_init_145 7 rfl
theorem dX10_init_159 : decode cX10_init 159 = .ok (.bipush 6, 2) := wn_at gdX10_init_145 8 rfl
theorem dX10_init_161 : decode cX10_init 161 = .ok (.if_icmp .ge 22, 3) := wn_at gdX10_init_145 9 rfl
theorem gdX10_init_164 : ∀ e ∈ ([(164, .aload_n 0, 1), (165, .getfield 29, 3), (168, .iload_n 1, 1), (169, .new 27, 3), (172, .dup, 1), (173, .invokespecial 83, 3), (176, .aastore, 1), (177, .iinc 1 1, 3), (180, .goto (-22), 3), (183, .return_, 1)] : List (Nat × Instr × Nat)), decode cX10_init e.1 = .ok e.2 := wn_all _ 164 (by decide +kernel)
theorem dX10_init_164 : decode cX10_init 164 = .ok (.aload_n 0, 1) := wn_at gdX10_init_164 0 rfl
theorem dX10_init_165 : decode cX10_init 165 = .ok (.getfield 29, 3) := wn_at gdX10_init_164 1 rfl
theorem dX10_init_168 : decode cX10_init 168 = .ok (.iload_n 1, 1) := wn_at gdX10_init_164 2 rfl
theorem dX10_init_169 : decode cX10_init 169 = .ok (.new 27, 3) := wn_at gdX10_init_164 3 rfl
theorem dX10_init_172 : decode cX10_init 172 = .ok (.dup, 1) := wn_at gdX10_init_164 4 rfl
theorem dX10_init_173 : decode cX10_init 173 = .ok (.invokespecial 83, 3) := wn_at gdX10_init_164 5 rfl
theorem dX10_init_176 : decode cX10_init 176 = .ok (.aastore, 1) := wn_at gdX10_init_164 6 rfl
theorem dX10_init_177 : decode cX10_init 177 = .ok (.iinc 1 1, 3) := wn_at gdX10_init_164 7 rfl
theorem dX10_init_180 : decode cX10_init 180 = .ok (.goto (-22), 3) := wn_at gdX10_init_164 8 rfl
theorem dX10_init_183 : decode cX10_init 183 = .ok (.return_, 1) := wn_at gdX10_init_164 9 rfl
theorem gdX10_feed_0 : ∀ e ∈ ([(0, .aload_n 0, 1), (1, .getfield 12, 3), (4, .getfield 84, 3), (7, .bipush 20, 2), (9, .iadd, 1), (10, .sipush 400, 3), (13, .if_icmp .le 5, 3), (16, .iconst (-1), 1), (17, .ireturn, 1), (18, .aload_n 0, 1)] : List (Nat × Instr × Nat)), decode cX10_feed e.1 = .ok e.2 := wn_all _ 0 (by decide +kernel)
theorem dX10_feed_0 : decode cX10_feed 0 = .ok (.aload_n 0, 1) := wn_at gdX10_feed_0 0 rfl
theorem dX10_feed_1 : decode cX10_feed 1 = .ok (.getfield 12, 3) := wn_at gdX10_feed_0 1 rfl
theorem dX10_feed_4 : decode cX10_feed 4 = .ok (.getfield 84, 3) := wn_at gdX10_feed_0 2 rfl
theorem dX10_feed_7 : decode cX10_feed 7 = .ok (.bipush 20, 2) := wn_at gdX10_feed_0 3 rfl
theorem dX10_feed_9 : decode cX10_feed 9 = .ok (.iadd, 1) := wn_at gdX10_feed_0 4 rfl
theorem dX10_feed_10 : decode cX10_feed 10 = .ok (.sipush 400, 3) := wn_at gdX10_feed_0 5 rfl
theorem dX10_feed_13 : decode cX10_feed 13 = .ok (.if_icmp .le 5, 3) := wn_at gdX10_feed_0 6 rfl
theorem dX10_feed_16 : decode cX10_feed 16 = .ok (.iconst (-1), 1) := wn_at gdX10_feed_0 7 rfl
theorem dX10_feed_17 : decode cX10_feed 17 = .ok (.ireturn, 1) := wn_at gdX10_feed_0 8 rfl
theorem dX10_feed_18 : decode cX10_feed 18 = .ok (.aload_n 0, 1) := wn_at gdX10_feed_0 9 rfl
theorem gdX10_feed_19 : ∀ e ∈ ([(19, .getfield 12, 3), (22, .iload_n 1, 1), (23, .invokevirtual 87, 3), (26, .aload_n 0, 1), (27, .getfield 12, 3), (30, .iload_n 2, 1), (31, .invokevirtual 87, 3), (34, .aload_n 0, 1), (35, .getfield 12, 3), (38, .iload_n 3, 1)] : List (Nat × Instr × Nat)), decode cX10_feed e.1 = .ok e.2 := wn_all _ 19 (by decide +kernel)
theorem dX10_feed_19 : decode cX10_feed 19 = .ok (.getfield 12, 3) := wn_at gdX10_feed_19 0 rfl
theorem dX10_feed_22 : decode cX10_feed 22 = .ok (.iload_n 1, 1) := wn_at gdX10_feed_19 1 rfl
theorem dX10_feed_23 : decode cX10_feed 23 = .ok (.invokevirtual 87, 3) := wn_at gdX10_feed_19 2 rfl
theorem dX10_feed_26 : decode cX10_feed 26 = .ok (.aload_n 0, 1) := wn_at gdX10_feed_19 3 rfl
theorem dX10_feed_27 : decode cX10_feed 27 = .ok (.getfield 12, 3) := wn_at gdX10_feed_19 4 rfl
theorem dX10_feed_30 : decode cX10_feed 30 = .ok (.iload_n 2, 1) := wn_at gdX10_feed_19 5 rfl
theorem dX10_feed_31 : decode cX10_feed 31 = .ok (.invokevirtual 87, 3) := wn_at gdX10_feed_19 6 rfl
theorem dX10_feed_34 : decode cX10_feed 34 = .ok (.aload_n 0, 1) := wn_at gdX10_feed_19 7 rfl
theorem dX10_feed_35 : decode cX10_feed 35 = .ok (.getfield 12, 3) := wn_at gdX10_feed_19 8 rfl
theorem dX10_feed_38 : decode cX10_feed 38 = .ok (.iload_n 3, 1) := wn_at gdX10_feed_19 9 rfl
theorem gdX10_feed_39 : ∀ e ∈ ([(39, .invokevirtual 87, 3), (42, .aload_n 0, 1), (43, .getfield 12, 3), (46, .iload 4, 2), (48, .invokevirtual 87, 3), (51, .aload_n 0, 1), (52, .getfield 12, 3), (55, .iload 5, 2), (57, .invokevirtual 87, 3), (60, .aload_n 0, 1)] : List (Nat × Instr × Nat)), decode cX10_feed e.1 = .ok e.2 := wn_all _ 39 (by decide +kernel)
theorem dX10_feed_39 : decode cX10_feed 39 = .ok (.invokevirtual 87, 3) := wn_at gdX10_feed_39 0 rfl
theorem dX10_feed_42 : decode cX10_feed 42 = .ok (.aload_n 0, 1) := wn_at gdX10_feed_39 1 rfl
theorem dX10_feed_43 : decode cX10_feed 43 = .ok (.getfield 12, 3) := wn_at gdX10_feed_39 2 rfl
theorem dX10_feed_46 : decode cX10_feed 46 = .ok (.iload 4, 2) := wn_at gdX10_feed_39 3 rfl
theorem dX10_feed_48 : decode cX10_feed 48 = .ok (.invokevirtual 87, 3) := wn_at gdX10_feed_39 4 rfl
theorem dX10_feed_51 : decode cX10_feed 51 = .ok (.aload_n 0, 1) := wn_at gdX10_feed_39 5 rfl
theorem dX10_feed_52 : decode cX10_feed 52 = .ok (.getfield 12, 3) := wn_at gdX10_feed_39 6 rfl
theorem dX10_feed_55 : decode cX10_feed 55 = .ok (.iload 5, 2) := wn_at gdX10_feed_39 7 rfl
theorem dX10_feed_57 : decode cX10_feed 57 = .ok (.invokevirtual 87, 3) := wn_at gdX10_feed_39 8 rfl
theorem dX10_feed_60 : decode cX10_feed 60 = .ok (.aload_n 0, 1) := wn_at gdX10_feed_39 9 rfl
theorem gdX10_feed_61 : ∀ e ∈ ([(61, .getfield 12, 3), (64, .getfield 84, 3), (67, .ireturn, 1)] : List (Nat × Instr × Nat)), decode cX10_feed e.1 = .ok e.2 := wn_all _ 61 (by decide +kernel)
theorem dX10_feed_61 : decode cX10_feed 61 = .ok (.getfield 12, 3) := wn_at gdX10_feed_61 0 rfl
theorem dX10_feed_64 : decode cX10_feed 64 = .ok (.getfield 84, 3) := wn_at gdX10_feed_61 1 rfl
theorem dX10_feed_67 : decode cX10_feed 67 = .ok (.ireturn, 1) := wn_at gdX10_feed_61 2 rfl
theorem gdX10_end_0 : ∀ e ∈ ([(0, .iload_n 1, 1), (1, .iconst 0, 1), (2, .aload_n 0, 1), (3, .getfield 12, 3), (6, .getfield 84, 3), (9, .invokestatic 91, 3), (12, .ifCond .ne 5, 3), (15, .iconst (-1), 1), (16, .ireturn, 1), (17, .aload_n 0, 1)] : List (Nat × Instr × Nat)), decode cX10_end e.1 = .ok e.2 := wn_all _ 0 (by decide +kernel)
theorem dX10_end_0 : decode cX10_end 0 = .ok (.iload_n 1, 1) := wn_at gdX10_end_0 0 rfl
theorem dX10_end_1 : decode cX10_end 1 = .ok (.iconst 0, 1) := wn_at gdX10_end_0 1 rfl
theorem dX10_end_2 : decode cX10_end 2 = .ok (.aload_n 0, 1) := wn_at gdX10_end_0 2 rfl
theorem dX10_end_3 : decode cX10_end 3 = .ok (.getfield 12, 3) := wn_at gdX10_end_0 3 rfl
theorem dX10_end_6 : decode cX10_end 6 = .ok (.getfield 84, 3) := wn_at gdX10_end_0 4 rfl
theorem dX10_end_9 : decode cX10_end 9 = .ok (.invokestatic 91, 3) := wn_at gdX10_end_0 5 rfl
theorem dX10_end_12 : decode cX10_end 12 = .ok (.ifCond .ne 5, 3) := wn_at gdX10_end_0 6 rfl
theorem dX10_end_15 : decode cX10_end 15 = .ok (.iconst (-1), 1) := wn_at gdX10_end_0 7 rfl
theorem dX10_end_16 : decode cX10_end 16 = .ok (.ireturn, 1) := wn_at gdX10_end_0 8 rfl
theorem dX10_end_17 : decode cX10_end 17 = .ok (.aload_n 0, 1) := wn_at gdX10_end_0 9 rfl
theorem gdX10_end_18 : ∀ e ∈ ([(18, .getfield 12, 3), (21, .iload_n 1, 1), (22, .putfield 84, 3), (25, .iload_n 1, 1), (26, .ireturn, 1)] : List (Nat × Instr × Nat)), decode cX10_end e.1 = .ok e.2 := wn_all _ 18 (by decide +kernel)
theorem dX10_end_18 : decode cX10_end 18 = .ok (.getfield 12, 3) := wn_at gdX10_end_18 0 rfl
theorem dX10_end_21 : decode cX10_end 21 = .ok (.iload_n 1, 1) := wn_at gdX10_end_18 1 rfl
theorem dX10_end_22 : decode cX10_end 22 = .ok (.putfield 84, 3) := wn_at gdX10_end_18 2 rfl
theorem dX10_end_25 : decode cX10_end 25 = .ok (.iload_n 1, 1) := wn_at gdX10_end_18 3 rfl
theorem dX10_end_26 : decode cX10_end 26 = .ok (.ireturn, 1) := wn_at gdX10_end_18 4 rfl
theorem gdX10_tower_0 : ∀ e ∈ ([(0, .aload_n 0, 1), (1, .getfield 52, 3), (4, .invokevirtual 95, 3), (7, .istore_n 1, 1), (8, .aload_n 0, 1), (9, .getfield 12, 3), (12, .iconst 0, 1), (13, .putfield 84, 3), (16, .iload_n 1, 1), (17, .ifCond .ne 14, 3)] : List (Nat × Instr × Nat)), decode cX10_tower e.1 = .ok e.2 := wn_all _ 0 (by decide +kernel)
theorem dX10_tower_0 : decode cX10_tower 0 = .ok (.aload_n 0, 1) := wn_at gdX10_tower_0 0 rfl
theorem dX10_tower_1 : decode cX10_tower 1 = .ok (.getfield 52, 3) := wn_at gdX10_tower_0 1 rfl
theorem dX10_tower_4 : decode cX10_tower 4 = .ok (.invokevirtual 95, 3) := wn_at gdX10_tower_0 2 rfl
theorem dX10_tower_7 : decode cX10_tower 7 = .ok (.istore_n 1, 1) := wn_at gdX10_tower_0 3 rfl
theorem dX10_tower_8 : decode cX10_tower 8 = .ok (.aload_n 0, 1) := wn_at gdX10_tower_0 4 rfl
theorem dX10_tower_9 : decode cX10_tower 9 = .ok (.getfield 12, 3) := wn_at gdX10_tower_0 5 rfl
theorem dX10_tower_12 : decode cX10_tower 12 = .ok (.iconst 0, 1) := wn_at gdX10_tower_0 6 rfl
theorem dX10_tower_13 : decode cX10_tower 13 = .ok (.putfield 84, 3) := wn_at gdX10_tower_0 7 rfl
theorem dX10_tower_16 : decode cX10_tower 16 = .ok (.iload_n 1, 1) := wn_at gdX10_tower_0 8 rfl
theorem dX10_tower_17 : decode cX10_tower 17 = .ok (.ifCond .ne 14, 3) := wn_at gdX10_tower_0 9 rfl
theorem gdX10_tower_20 : ∀ e ∈ ([(20, .bipush (-2), 2), (22, .aload_n 0, 1), (23, .getfield 12, 3), (26, .getfield 99, 3), (29, .isub, 1), (30, .ireturn, 1), (31, .aload_n 0, 1), (32, .getfield 19, 3), (35, .getfield 102, 3), (38, .aload_n 0, 1)] : List (Nat × Instr × Nat)), decode cX10_tower e.1 = .ok e.2 := wn_all _ 20 (by decide +kernel)
theorem dX10_tower_20 : decode cX10_tower 20 = .ok (.bipush (-2), 2) := wn_at gdX10_tower_20 0 rfl
theorem dX10_tower_22 : decode cX10_tower 22 = .ok (.aload_n 0, 1) := wn_at gdX10_tower_20 1 rfl
theorem dX10_tower_23 : decode cX10_tower 23 = .ok (.getfield 12, 3) := wn_at gdX10_tower_20 2 rfl
theorem dX10_tower_26 : decode cX10_tower 26 = .ok (.getfield 99, 3) := wn_at gdX10_tower_20 3 rfl
theorem dX10_tower_29 : decode cX10_tower 29 = .ok (.isub, 1) := wn_at gdX10_tower_20 4 rfl
theorem dX10_tower_30 : decode cX10_tower 30 = .ok (.ireturn, 1) := wn_at gdX10_tower_20 5 rfl
theorem dX10_tower_31 : decode cX10_tower 31 = .ok (.aload_n 0, 1) := wn_at gdX10_tower_20 6 rfl
theorem dX10_tower_32 : decode cX10_tower 32 = .ok (.getfield 19, 3) := wn_at gdX10_tower_20 7 rfl
theorem dX10_tower_35 : decode cX10_tower 35 = .ok (.getfield 102, 3) := wn_at gdX10_tower_20 8 rfl
theorem dX10_tower_38 : decode cX10_tower 38 = .ok (.aload_n 0, 1) := wn_at gdX10_tower_20 9 rfl
theorem gdX10_tower_39 : ∀ e ∈ ([(39, .getfield 36, 3), (42, .invokevirtual 105, 3), (45, .aload_n 0, 1), (46, .getfield 19, 3), (49, .getfield 109, 3), (52, .aload_n 0, 1), (53, .getfield 43, 3), (56, .invokevirtual 112, 3), (59, .aload_n 0, 1), (60, .getfield 19, 3)] : List (Nat × Instr × Nat)), decode cX10_tower e.1 = .ok e.2 := wn_all _ 39 (by decide +kernel)
theorem dX10_tower_39 : decode cX10_tower 39 = .ok (.getfield 36, 3) := wn_at gdX10_tower_39 0 rfl
theorem dX10_tower_42 : decode cX10_tower 42 = .ok (.invokevirtual 105, 3) := wn_at gdX10_tower_39 1 rfl
theorem dX10_tower_45 : decode cX10_tower 45 = .ok (.aload_n 0, 1) := wn_at gdX10_tower_39 2 rfl
theorem dX10_tower_46 : decode cX10_tower 46 = .ok (.getfield 19, 3) := wn_at gdX10_tower_39 3 rfl
theorem dX10_tower_49 : decode cX10_tower 49 = .ok (.getfield 109, 3) := wn_at gdX10_tower_39 4 rfl
theorem dX10_tower_52 : decode cX10_tower 52 = .ok (.aload_n 0, 1) := wn_at gdX10_tower_39 5 rfl
theorem dX10_tower_53 : decode cX10_tower 53 = .ok (.getfield 43, 3) := wn_at gdX10_tower_39 6 rfl
theorem dX10_tower_56 : decode cX10_tower 56 = .ok (.invokevirtual 112, 3) := wn_at gdX10_tower_39 7 rfl
theorem dX10_tower_59 : decode cX10_tower 59 = .ok (.aload_n 0, 1) := wn_at gdX10_tower_39 8 rfl
theorem dX10_tower_60 : decode cX10_tower 60 = .ok (.getfield 19, 3) := wn_at gdX10_tower_39 9 rfl
theorem gdX10_tower_63 : ∀ e ∈ ([(63, .getfield 115, 3), (66, .iconst 0, 1), (67, .putfield 119, 3), (70, .aload_n 0, 1), (71, .getfield 19, 3), (74, .getfield 102, 3), (77, .getfield 122, 3), (80, .ireturn, 1)] : List (Nat × Instr × Nat)), decode cX10_tower e.1 = .ok e.2 := wn_all _ 63 (by decide +kernel)
theorem dX10_tower_63 : decode cX10_tower 63 = .ok (.getfield 115, 3) := wn_at gdX10_tower_63 0 rfl
theorem dX10_tower_66 : decode cX10_tower 66 = .ok (.iconst 0, 1) := wn_at gdX10_tower_63 1 rfl
theorem dX10_tower_67 : decode cX10_tower 67 = .ok (.putfield 119, 3) := wn_at gdX10_tower_63 2 rfl
theorem dX10_tower_70 : decode cX10_tower 70 = .ok (.aload_n 0, 1) := wn_at gdX10_tower_63 3 rfl
theorem dX10_tower_71 : decode cX10_tower 71 = .ok (.getfield 19, 3) := wn_at gdX10_tower_63 4 rfl
theorem dX10_tower_74 : decode cX10_tower 74 = .ok (.getfield 102, 3) := wn_at gdX10_tower_63 5 rfl
theorem dX10_tower_77 : decode cX10_tower 77 = .ok (.getfield 122, 3) := wn_at gdX10_tower_63 6 rfl
theorem dX10_tower_80 : decode cX10_tower 80 = .ok (.ireturn, 1) := wn_at gdX10_tower_63 7 rfl
theorem gdX10_rule_0 : ∀ e ∈ ([(0, .aload_n 0, 1), (1, .getfield 79, 3), (4, .bipush 6, 2), (6, .if_icmp .lt 5, 3), (9, .iconst (-1), 1), (10, .ireturn, 1), (11, .aload_n 0, 1), (12, .getfield 61, 3), (15, .invokevirtual 125, 3), (18, .istore_n 1, 1)] : List (Nat × Instr × Nat)), decode cX10_rule e.1 = .ok e.2 := wn_all _ 0 (by decide +kernel)
theorem dX10_rule_0 : decode cX10_rule 0 = .ok (.aload_n 0, 1) := wn_at gdX10_rule_0 0 rfl
theorem dX10_rule_1 : decode cX10_rule 1 = .ok (.getfield 79, 3) := wn_at gdX10_rule_0 1 rfl
theorem dX10_rule_4 : decode cX10_rule 4 = .ok (.bipush 6, 2) := wn_at gdX10_rule_0 2 rfl
theorem dX10_rule_6 : decode cX10_rule 6 = .ok (.if_icmp .lt 5, 3) := wn_at gdX10_rule_0 3 rfl
theorem dX10_rule_9 : decode cX10_rule 9 = .ok (.iconst (-1), 1) := wn_at gdX10_rule_0 4 rfl
theorem dX10_rule_10 : decode cX10_rule 10 = .ok (.ireturn, 1) := wn_at gdX10_rule_0 5 rfl
theorem dX10_rule_11 : decode cX10_rule 11 = .ok (.aload_n 0, 1) := wn_at gdX10_rule_0 6 rfl
theorem dX10_rule_12 : decode cX10_rule 12 = .ok (.getfield 61, 3) := wn_at gdX10_rule_0 7 rfl
theorem dX10_rule_15 : decode cX10_rule 15 = .ok (.invokevirtual 125, 3) := wn_at gdX10_rule_0 8 rfl
theorem dX10_rule_18 : decode cX10_rule 18 = .ok (.istore_n 1, 1) := wn_at gdX10_rule_0 9 rfl
theorem gdX10_rule_19 : ∀ e ∈ ([(19, .aload_n 0, 1), (20, .getfield 12, 3), (23, .iconst 0, 1), (24, .putfield 84, 3), (27, .iload_n 1, 1), (28, .ifCond .ne 14, 3), (31, .bipush (-2), 2), (33, .aload_n 0, 1), (34, .getfield 12, 3), (37, .getfield 99, 3)] : List (Nat × Instr × Nat)), decode cX10_rule e.1 = .ok e.2 := wn_all _ 19 (by decide +kernel)
theorem dX10_rule_19 : decode cX10_rule 19 = .ok (.aload_n 0, 1) := wn_at gdX10_rule_19 0 rfl
theorem dX10_rule_20 : decode cX10_rule 20 = .ok (.getfield 12, 3) := wn_at gdX10_rule_19 1 rfl
theorem dX10_rule_23 : decode cX10_rule 23 = .ok (.iconst 0, 1) := wn_at gdX10_rule_19 2 rfl
theorem dX10_rule_24 : decode cX10_rule 24 = .ok (.putfield 84, 3) := wn_at gdX10_rule_19 3 rfl
theorem dX10_rule_27 : decode cX10_rule 27 = .ok (.iload_n 1, 1) := wn_at gdX10_rule_19 4 rfl
theorem dX10_rule_28 : decode cX10_rule 28 = .ok (.ifCond .ne 14, 3) := wn_at gdX10_rule_19 5 rfl
theorem dX10_rule_31 : decode cX10_rule 31 = .ok (.bipush (-2), 2) := wn_at gdX10_rule_19 6 rfl
theorem dX10_rule_33 : decode cX10_rule 33 = .ok (.aload_n 0, 1) := wn_at gdX10_rule_19 7 rfl
theorem dX10_rule_34 : decode cX10_rule 34 = .ok (.getfield 12, 3) := wn_at gdX10_rule_19 8 rfl
theorem dX10_rule_37 : decode cX10_rule 37 = .ok (.getfield 99, 3) := wn_at gdX10_rule_19 9 rfl
theorem gdX10_rule_40 : ∀ e ∈ ([(40, .isub, 1), (41, .ireturn, 1), (42, .aload_n 0, 1), (43, .getfield 29, 3), (46, .aload_n 0, 1), (47, .getfield 79, 3), (50, .aaload, 1), (51, .aload_n 0, 1), (52, .getfield 61, 3), (55, .getfield 126, 3)] : List (Nat × Instr × Nat)), decode cX10_rule e.1 = .ok e.2 := wn_all _ 40 (by decide +kernel)
theorem dX10_rule_40 : decode cX10_rule 40 = .ok (.isub, 1) := wn_at gdX10_rule_40 0 rfl
theorem dX10_rule_41 : decode cX10_rule 41 = .ok (.ireturn, 1) := wn_at gdX10_rule_40 1 rfl
theorem dX10_rule_42 : decode cX10_rule 42 = .ok (.aload_n 0, 1) := wn_at gdX10_rule_40 2 rfl
theorem dX10_rule_43 : decode cX10_rule 43 = .ok (.getfield 29, 3) := wn_at gdX10_rule_40 3 rfl
theorem dX10_rule_46 : decode cX10_rule 46 = .ok (.aload_n 0, 1) := wn_at gdX10_rule_40 4 rfl
theorem dX10_rule_47 : decode cX10_rule 47 = .ok (.getfield 79, 3) := wn_at gdX10_rule_40 5 rfl
theorem dX10_rule_50 : decode cX10_rule 50 = .ok (.aaload, 1) := wn_at gdX10_rule_40 6 rfl
theorem dX10_rule_51 : decode cX10_rule 51 = .ok (.aload_n 0, 1) := wn_at gdX10_rule_40 7 rfl
theorem dX10_rule_52 : decode cX10_rule 52 = .ok (.getfield 61, 3) := wn_at gdX10_rule_40 8 rfl
theorem dX10_rule_55 : decode cX10_rule 55 = .ok (.getfield 126, 3) := wn_at gdX10_rule_40 9 rfl
theorem gdX10_rule_58 : ∀ e ∈ ([(58, .invokevirtual 130, 3), (61, .aload_n 0, 1), (62, .dup, 1), (63, .getfield 79, 3), (66, .iconst 1, 1), (67, .iadd, 1), (68, .putfield 79, 3), (71, .aload_n 0, 1), (72, .getfield 79, 3), (75, .iconst 1, 1)] : List (Nat × Instr × Nat)), decode cX10_rule e.1 = .ok e.2 := wn_all _ 58 (by decide +kernel)
theorem dX10_rule_58 : decode cX10_rule 58 = .ok (.invokevirtual 130, 3) := wn_at gdX10_rule_58 0 rfl
theorem dX10_rule_61 : decode cX10_rule 61 = .ok (.aload_n 0, 1) := wn_at gdX10_rule_58 1 rfl
theorem dX10_rule_62 : decode cX10_rule 62 = .ok (.dup, 1) := wn_at gdX10_rule_58 2 rfl
theorem dX10_rule_63 : decode cX10_rule 63 = .ok (.getfield 79, 3) := wn_at gdX10_rule_58 3 rfl
theorem dX10_rule_66 : decode cX10_rule 66 = .ok (.iconst 1, 1) := wn_at gdX10_rule_58 4 rfl
theorem dX10_rule_67 : decode cX10_rule 67 = .ok (.iadd, 1) := wn_at gdX10_rule_58 5 rfl
theorem dX10_rule_68 : decode cX10_rule 68 = .ok (.putfield 79, 3) := wn_at gdX10_rule_58 6 rfl
theorem dX10_rule_71 : decode cX10_rule 71 = .ok (.aload_n 0, 1) := wn_at gdX10_rule_58 7 rfl
theorem dX10_rule_72 : decode cX10_rule 72 = .ok (.getfield 79, 3) := wn_at gdX10_rule_58 8 rfl
theorem dX10_rule_75 : decode cX10_rule 75 = .ok (.iconst 1, 1) := wn_at gdX10_rule_58 9 rfl
theorem gdX10_rule_76 : ∀ e ∈ ([(76, .isub, 1), (77, .ireturn, 1)] : List (Nat × Instr × Nat)), decode cX10_rule e.1 = .ok e.2 := wn_all _ 76 (by decide +kernel)
theorem dX10_rule_76 : decode cX10_rule 76 = .ok (.isub, 1) := wn_at gdX10_rule_76 0 rfl
theorem dX10_rule_77 : decode cX10_rule 77 = .ok (.ireturn, 1) := wn_at gdX10_rule_76 1 rfl
theorem gdX10_floor_0 : ∀ e ∈ ([(0, .aload_n 0, 1), (1, .iload_n 1, 1), (2, .invokevirtual 133, 3), (5, .ifCond .eq 12, 3), (8, .iload_n 2, 1), (9, .iconst 0, 1), (10, .iconst 2, 1), (11, .invokestatic 91, 3), (14, .ifCond .ne 5, 3), (17, .iconst (-1), 1)] : List (Nat × Instr × Nat)), decode cX10_floor e.1 = .ok e.2 := wn_all _ 0 (by decide +kernel)
theorem dX10_floor_0 : decode cX10_floor 0 = .ok (.aload_n 0, 1) := wn_at gdX10_floor_0 0 rfl
theorem dX10_floor_1 : decode cX10_floor 1 = .ok (.iload_n 1, 1) := wn_at gdX10_floor_0 1 rfl
theorem dX10_floor_2 : decode cX10_floor 2 = .ok (.invokevirtual 133, 3) := wn_at gdX10_floor_0 2 rfl
theorem dX10_floor_5 : decode cX10_floor 5 = .ok (.ifCond .eq 12, 3) := wn_at gdX10_floor_0 3 rfl
theorem dX10_floor_8 : decode cX10_floor 8 = .ok (.iload_n 2, 1) := wn_at gdX10_floor_0 4 rfl
theorem dX10_floor_9 : decode cX10_floor 9 = .ok (.iconst 0, 1) := wn_at gdX10_floor_0 5 rfl
theorem dX10_floor_10 : decode cX10_floor 10 = .ok (.iconst 2, 1) := wn_at gdX10_floor_0 6 rfl
theorem dX10_floor_11 : decode cX10_floor 11 = .ok (.invokestatic 91, 3) := wn_at gdX10_floor_0 7 rfl
theorem dX10_floor_14 : decode cX10_floor 14 = .ok (.ifCond .ne 5, 3) := wn_at gdX10_floor_0 8 rfl
theorem dX10_floor_17 : decode cX10_floor 17 = .ok (.iconst (-1), 1) := wn_at gdX10_floor_0 9 rfl
theorem gdX10_floor_18 : ∀ e ∈ ([(18, .ireturn, 1), (19, .iload_n 2, 1), (20, .iconst 2, 1), (21, .if_icmp .ne 15, 3), (24, .aload_n 0, 1), (25, .getfield 19, 3), (28, .getfield 109, 3), (31, .iload_n 1, 1), (32, .invokevirtual 137, 3), (35, .ireturn, 1)] : List (Nat × Instr × Nat)), decode cX10_floor e.1 = .ok e.2 := wn_all _ 18 (by decide +kernel)
theorem dX10_floor_18 : decode cX10_floor 18 = .ok (.ireturn, 1) := wn_at gdX10_floor_18 0 rfl
theorem dX10_floor_19 : decode cX10_floor 19 = .ok (.iload_n 2, 1) := wn_at gdX10_floor_18 1 rfl
theorem dX10_floor_20 : decode cX10_floor 20 = .ok (.iconst 2, 1) := wn_at gdX10_floor_18 2 rfl
theorem dX10_floor_21 : decode cX10_floor 21 = .ok (.if_icmp .ne 15, 3) := wn_at gdX10_floor_18 3 rfl
theorem dX10_floor_24 : decode cX10_floor 24 = .ok (.aload_n 0, 1) := wn_at gdX10_floor_18 4 rfl
theorem dX10_floor_25 : decode cX10_floor 25 = .ok (.getfield 19, 3) := wn_at gdX10_floor_18 5 rfl
theorem dX10_floor_28 : decode cX10_floor 28 = .ok (.getfield 109, 3) := wn_at gdX10_floor_18 6 rfl
theorem dX10_floor_31 : decode cX10_floor 31 = .ok (.iload_n 1, 1) := wn_at gdX10_floor_18 7 rfl
theorem dX10_floor_32 : decode cX10_floor 32 = .ok (.invokevirtual 137, 3) := wn_at gdX10_floor_18 8 rfl
theorem dX10_floor_35 : decode cX10_floor 35 = .ok (.ireturn, 1) := wn_at gdX10_floor_18 9 rfl
theorem gdX10_floor_36 : ∀ e ∈ ([(36, .aload_n 0, 1), (37, .getfield 19, 3), (40, .getfield 102, 3), (43, .getfield 141, 3), (46, .iload_n 1, 1), (47, .laload, 1), (48, .ldc2_w 145, 3), (51, .iload_n 2, 1), (52, .invokestatic 147, 3), (55, .l2i, 1)] : List (Nat × Instr × Nat)), decode cX10_floor e.1 = .ok e.2 := wn_all _ 36 (by decide +kernel)
theorem dX10_floor_36 : decode cX10_floor 36 = .ok (.aload_n 0, 1) := wn_at gdX10_floor_36 0 rfl
theorem dX10_floor_37 : decode cX10_floor 37 = .ok (.getfield 19, 3) := wn_at gdX10_floor_36 1 rfl
theorem dX10_floor_40 : decode cX10_floor 40 = .ok (.getfield 102, 3) := wn_at gdX10_floor_36 2 rfl
theorem dX10_floor_43 : decode cX10_floor 43 = .ok (.getfield 141, 3) := wn_at gdX10_floor_36 3 rfl
theorem dX10_floor_46 : decode cX10_floor 46 = .ok (.iload_n 1, 1) := wn_at gdX10_floor_36 4 rfl
theorem dX10_floor_47 : decode cX10_floor 47 = .ok (.laload, 1) := wn_at gdX10_floor_36 5 rfl
theorem dX10_floor_48 : decode cX10_floor 48 = .ok (.ldc2_w 145, 3) := wn_at gdX10_floor_36 6 rfl
theorem dX10_floor_51 : decode cX10_floor 51 = .ok (.iload_n 2, 1) := wn_at gdX10_floor_36 7 rfl
theorem dX10_floor_52 : decode cX10_floor 52 = .ok (.invokestatic 147, 3) := wn_at gdX10_floor_36 8 rfl
theorem dX10_floor_55 : decode cX10_floor 55 = .ok (.l2i, 1) := wn_at gdX10_floor_36 9 rfl
theorem gdX10_floor_56 : ∀ e ∈ ([(56, .ireturn, 1)] : List (Nat × Instr × Nat)), decode cX10_floor e.1 = .ok e.2 := wn_all _ 56 (by decide +kernel)
theorem dX10_floor_56 : decode cX10_floor 56 = .ok (.ireturn, 1) := wn_at gdX10_floor_56 0 rfl
theorem gdX10_stair_0 : ∀ e ∈ ([(0, .aload_n 0, 1), (1, .getfield 19, 3), (4, .getfield 102, 3), (7, .astore_n 3, 1), (8, .iload_n 1, 1), (9, .iconst 0, 1), (10, .aload_n 3, 1), (11, .getfield 151, 3), (14, .iconst 1, 1), (15, .isub, 1)] : List (Nat × Instr × Nat)), decode cX10_stair e.1 = .ok e.2 := wn_all _ 0 (by decide +kernel)
theorem dX10_stair_0 : decode cX10_stair 0 = .ok (.aload_n 0, 1) := wn_at gdX10_stair_0 0 rfl
theorem dX10_stair_1 : decode cX10_stair 1 = .ok (.getfield 19, 3) := wn_at gdX10_stair_0 1 rfl
theorem dX10_stair_4 : decode cX10_stair 4 = .ok (.getfield 102, 3) := wn_at gdX10_stair_0 2 rfl
theorem dX10_stair_7 : decode cX10_stair 7 = .ok (.astore_n 3, 1) := wn_at gdX10_stair_0 3 rfl
theorem dX10_stair_8 : decode cX10_stair 8 = .ok (.iload_n 1, 1) := wn_at gdX10_stair_0 4 rfl
theorem dX10_stair_9 : decode cX10_stair 9 = .ok (.iconst 0, 1) := wn_at gdX10_stair_0 5 rfl
theorem dX10_stair_10 : decode cX10_stair 10 = .ok (.aload_n 3, 1) := wn_at gdX10_stair_0 6 rfl
theorem dX10_stair_11 : decode cX10_stair 11 = .ok (.getfield 151, 3) := wn_at gdX10_stair_0 7 rfl
theorem dX10_stair_14 : decode cX10_stair 14 = .ok (.iconst 1, 1) := wn_at gdX10_stair_0 8 rfl
theorem dX10_stair_15 : decode cX10_stair 15 = .ok (.isub, 1) := wn_at gdX10_stair_0 9 rfl
theorem gdX10_stair_16 : ∀ e ∈ ([(16, .invokestatic 91, 3), (19, .ifCond .eq 12, 3), (22, .iload_n 2, 1), (23, .iconst 0, 1), (24, .iconst 4, 1), (25, .invokestatic 91, 3), (28, .ifCond .ne 5, 3), (31, .iconst (-1), 1), (32, .ireturn, 1), (33, .iload_n 2, 1)] : List (Nat × Instr × Nat)), decode cX10_stair e.1 = .ok e.2 := wn_all _ 16 (by decide +kernel)
theorem dX10_stair_16 : decode cX10_stair 16 = .ok (.invokestatic 91, 3) := wn_at gdX10_stair_16 0 rfl
theorem dX10_stair_19 : decode cX10_stair 19 = .ok (.ifCond .eq 12, 3) := wn_at gdX10_stair_16 1 rfl
theorem dX10_stair_22 : decode cX10_stair 22 = .ok (.iload_n 2, 1) := wn_at gdX10_stair_16 2 rfl
theorem dX10_stair_23 : decode cX10_stair 23 = .ok (.iconst 0, 1) := wn_at gdX10_stair_16 3 rfl
theorem dX10_stair_24 : decode cX10_stair 24 = .ok (.iconst 4, 1) := wn_at gdX10_stair_16 4 rfl
theorem dX10_stair_25 : decode cX10_stair 25 = .ok (.invokestatic 91, 3) := wn_at gdX10_stair_16 5 rfl
theorem dX10_stair_28 : decode cX10_stair 28 = .ok (.ifCond .ne 5, 3) := wn_at gdX10_stair_16 6 rfl
theorem dX10_stair_31 : decode cX10_stair 31 = .ok (.iconst (-1), 1) := wn_at gdX10_stair_16 7 rfl
theorem dX10_stair_32 : decode cX10_stair 32 = .ok (.ireturn, 1) := wn_at gdX10_stair_16 8 rfl
theorem dX10_stair_33 : decode cX10_stair 33 = .ok (.iload_n 2, 1) := wn_at gdX10_stair_16 9 rfl
theorem dX10_stair_34 : decode cX10_stair 34 = .ok (.tableswitch 47 0 2 #[26, 33, 40], 26) := by decide +kernel
theorem gdX10_stair_60 : ∀ e ∈ ([(60, .aload_n 3, 1), (61, .getfield 154, 3), (64, .iload_n 1, 1), (65, .iaload, 1), (66, .ireturn, 1), (67, .aload_n 3, 1), (68, .getfield 158, 3), (71, .iload_n 1, 1), (72, .iaload, 1), (73, .ireturn, 1)] : List (Nat × Instr × Nat)), decode cX10_stair e.1 = .ok e.2 := wn_all _ 60 (by decide +kernel)
theorem dX10_stair_60 : decode cX10_stair 60 = .ok (.aload_n 3, 1) := wn_at gdX10_stair_60 0 rfl
theorem dX10_stair_61 : decode cX10_stair 61 = .ok (.getfield 154, 3) := wn_at gdX10_stair_60 1 rfl
theorem dX10_stair_64 : decode cX10_stair 64 = .ok (.iload_n 1, 1) := wn_at gdX10_stair_60 2 rfl
theorem dX10_stair_65 : decode cX10_stair 65 = .ok (.iaload, 1) := wn_at gdX10_stair_60 3 rfl
theorem dX10_stair_66 : decode cX10_stair 66 = .ok (.ireturn, 1) := wn_at gdX10_stair_60 4 rfl
theorem dX10_stair_67 : decode cX10_stair 67 = .ok (.aload_n 3, 1) := wn_at gdX10_stair_60 5 rfl
theorem dX10_stair_68 : decode cX10_stair 68 = .ok (.getfield 158, 3) := wn_at gdX10_stair_60 6 rfl
theorem dX10_stair_71 : decode cX10_stair 71 = .ok (.iload_n 1, 1) := wn_at gdX10_stair_60 7 rfl
theorem dX10_stair_72 : decode cX10_stair 72 = .ok (.iaload, 1) := wn_at gdX10_stair_60 8 rfl
theorem dX10_stair_73 : decode cX10_stair 73 = .ok (.ireturn, 1) := wn_at gdX10_stair_60 9 rfl
theorem gdX10_stair_74 : ∀ e ∈ ([(74, .aload_n 3, 1), (75, .getfield 161, 3), (78, .iload_n 1, 1), (79, .iaload, 1), (80, .ireturn, 1), (81, .aload_n 3, 1), (82, .getfield 164, 3), (85, .iload_n 1, 1), (86, .laload, 1), (87, .ldc2_w 145, 3)] : List (Nat × Instr × Nat)), decode cX10_stair e.1 = .ok e.2 := wn_all _ 74 (by decide +kernel)
theorem dX10_stair_74 : decode cX10_stair 74 = .ok (.aload_n 3, 1) := wn_at gdX10_stair_74 0 rfl
theorem dX10_stair_75 : decode cX10_stair 75 = .ok (.getfield 161, 3) := wn_at gdX10_stair_74 1 rfl
theorem dX10_stair_78 : decode cX10_stair 78 = .ok (.iload_n 1, 1) := wn_at gdX10_stair_74 2 rfl
theorem dX10_stair_79 : decode cX10_stair 79 = .ok (.iaload, 1) := wn_at gdX10_stair_74 3 rfl
theorem dX10_stair_80 : decode cX10_stair 80 = .ok (.ireturn, 1) := wn_at gdX10_stair_74 4 rfl
theorem dX10_stair_81 : decode cX10_stair 81 = .ok (.aload_n 3, 1) := wn_at gdX10_stair_74 5 rfl
theorem dX10_stair_82 : decode cX10_stair 82 = .ok (.getfield 164, 3) := wn_at gdX10_stair_74 6 rfl
theorem dX10_stair_85 : decode cX10_stair 85 = .ok (.iload_n 1, 1) := wn_at gdX10_stair_74 7 rfl
theorem dX10_stair_86 : decode cX10_stair 86 = .ok (.laload, 1) := wn_at gdX10_stair_74 8 rfl
theorem dX10_stair_87 : decode cX10_stair 87 = .ok (.ldc2_w 145, 3) := wn_at gdX10_stair_74 9 rfl
theorem gdX10_stair_90 : ∀ e ∈ ([(90, .iload_n 2, 1), (91, .iconst 3, 1), (92, .isub, 1), (93, .invokestatic 147, 3), (96, .l2i, 1), (97, .ireturn, 1)] : List (Nat × Instr × Nat)), decode cX10_stair e.1 = .ok e.2 := wn_all _ 90 (by decide +kernel)
theorem dX10_stair_90 : decode cX10_stair 90 = .ok (.iload_n 2, 1) := wn_at gdX10_stair_90 0 rfl
theorem dX10_stair_91 : decode cX10_stair 91 = .ok (.iconst 3, 1) := wn_at gdX10_stair_90 1 rfl
theorem dX10_stair_92 : decode cX10_stair 92 = .ok (.isub, 1) := wn_at gdX10_stair_90 2 rfl
theorem dX10_stair_93 : decode cX10_stair 93 = .ok (.invokestatic 147, 3) := wn_at gdX10_stair_90 3 rfl
theorem dX10_stair_96 : decode cX10_stair 96 = .ok (.l2i, 1) := wn_at gdX10_stair_90 4 rfl
theorem dX10_stair_97 : decode cX10_stair 97 = .ok (.ireturn, 1) := wn_at gdX10_stair_90 5 rfl
theorem gdX10_thing_0 : ∀ e ∈ ([(0, .aload_n 0, 1), (1, .iload_n 1, 1), (2, .invokevirtual 167, 3), (5, .ifCond .eq 12, 3), (8, .iload_n 2, 1), (9, .iconst 0, 1), (10, .iconst 3, 1), (11, .invokestatic 91, 3), (14, .ifCond .ne 6, 3), (17, .bipush (-2), 2)] : List (Nat × Instr × Nat)), decode cX10_thing e.1 = .ok e.2 := wn_all _ 0 (by decide +kernel)
theorem dX10_thing_0 : decode cX10_thing 0 = .ok (.aload_n 0, 1) := wn_at gdX10_thing_0 0 rfl
theorem dX10_thing_1 : decode cX10_thing 1 = .ok (.iload_n 1, 1) := wn_at gdX10_thing_0 1 rfl
theorem dX10_thing_2 : decode cX10_thing 2 = .ok (.invokevirtual 167, 3) := wn_at gdX10_thing_0 2 rfl
theorem dX10_thing_5 : decode cX10_thing 5 = .ok (.ifCond .eq 12, 3) := wn_at gdX10_thing_0 3 rfl
theorem dX10_thing_8 : decode cX10_thing 8 = .ok (.iload_n 2, 1) := wn_at gdX10_thing_0 4 rfl
theorem dX10_thing_9 : decode cX10_thing 9 = .ok (.iconst 0, 1) := wn_at gdX10_thing_0 5 rfl
theorem dX10_thing_10 : decode cX10_thing 10 = .ok (.iconst 3, 1) := wn_at gdX10_thing_0 6 rfl
theorem dX10_thing_11 : decode cX10_thing 11 = .ok (.invokestatic 91, 3) := wn_at gdX10_thing_0 7 rfl
theorem dX10_thing_14 : decode cX10_thing 14 = .ok (.ifCond .ne 6, 3) := wn_at gdX10_thing_0 8 rfl
theorem dX10_thing_17 : decode cX10_thing 17 = .ok (.bipush (-2), 2) := wn_at gdX10_thing_0 9 rfl
theorem gdX10_thing_19 : ∀ e ∈ ([(19, .ireturn, 1), (20, .aload_n 0, 1), (21, .getfield 19, 3), (24, .getfield 109, 3), (27, .astore_n 3, 1), (28, .iload_n 2, 1)] : List (Nat × Instr × Nat)), decode cX10_thing e.1 = .ok e.2 := wn_all _ 19 (by decide +kernel)
theorem dX10_thing_19 : decode cX10_thing 19 = .ok (.ireturn, 1) := wn_at gdX10_thing_19 0 rfl
theorem dX10_thing_20 : decode cX10_thing 20 = .ok (.aload_n 0, 1) := wn_at gdX10_thing_19 1 rfl
theorem dX10_thing_21 : decode cX10_thing 21 = .ok (.getfield 19, 3) := wn_at gdX10_thing_19 2 rfl
theorem dX10_thing_24 : decode cX10_thing 24 = .ok (.getfield 109, 3) := wn_at gdX10_thing_19 3 rfl
theorem dX10_thing_27 : decode cX10_thing 27 = .ok (.astore_n 3, 1) := wn_at gdX10_thing_19 4 rfl
theorem dX10_thing_28 : decode cX10_thing 28 = .ok (.iload_n 2, 1) := wn_at gdX10_thing_19 5 rfl
theorem dX10_thing_29 : decode cX10_thing 29 = .ok (.tableswitch 48 0 2 #[27, 34, 41], 27) := by decide +kernel
theorem gdX10_thing_56 : ∀ e ∈ ([(56, .aload_n 3, 1), (57, .getfield 170, 3), (60, .iload_n 1, 1), (61, .iaload, 1), (62, .ireturn, 1), (63, .aload_n 3, 1), (64, .getfield 173, 3), (67, .iload_n 1, 1), (68, .iaload, 1), (69, .ireturn, 1)] : List (Nat × Instr × Nat)), decode cX10_thing e.1 = .ok e.2 := wn_all _ 56 (by decide +kernel)
theorem dX10_thing_56 : decode cX10_thing 56 = .ok (.aload_n 3, 1) := wn_at gdX10_thing_56 0 rfl
theorem dX10_thing_57 : decode cX10_thing 57 = .ok (.getfield 170, 3) := wn_at gdX10_thing_56 1 rfl
theorem dX10_thing_60 : decode cX10_thing 60 = .ok (.iload_n 1, 1) := wn_at gdX10_thing_56 2 rfl
theorem dX10_thing_61 : decode cX10_thing 61 = .ok (.iaload, 1) := wn_at gdX10_thing_56 3 rfl
theorem dX10_thing_62 : decode cX10_thing 62 = .ok (.ireturn, 1) := wn_at gdX10_thing_56 4 rfl
theorem dX10_thing_63 : decode cX10_thing 63 = .ok (.aload_n 3, 1) := wn_at gdX10_thing_56 5 rfl
theorem dX10_thing_64 : decode cX10_thing 64 = .ok (.getfield 173, 3) := wn_at gdX10_thing_56 6 rfl
theorem dX10_thing_67 : decode cX10_thing 67 = .ok (.iload_n 1, 1) := wn_at gdX10_thing_56 7 rfl
theorem dX10_thing_68 : decode cX10_thing 68 = .ok (.iaload, 1) := wn_at gdX10_thing_56 8 rfl
theorem dX10_thing_69 : decode cX10_thing 69 = .ok (.ireturn, 1) := wn_at gdX10_thing_56 9 rfl
theorem gdX10_thing_70 : ∀ e ∈ ([(70, .aload_n 3, 1), (71, .getfield 176, 3), (74, .iload_n 1, 1), (75, .iaload, 1), (76, .ireturn, 1), (77, .aload_n 3, 1), (78, .getfield 179, 3), (81, .iload_n 1, 1), (82, .iaload, 1), (83, .ireturn, 1)] : List (Nat × Instr × Nat)), decode cX10_thing e.1 = .ok e.2 := wn_all _ 70 (by decide +kernel)
theorem dX10_thing_70 : decode cX10_thing 70 = .ok (.aload_n 3, 1) := wn_at gdX10_thing_70 0 rfl
theorem dX10_thing_71 : decode cX10_thing 71 = .ok (.getfield 176, 3) := wn_at gdX10_thing_70 1 rfl
theorem dX10_thing_74 : decode cX10_thing 74 = .ok (.iload_n 1, 1) := wn_at gdX10_thing_70 2 rfl
theorem dX10_thing_75 : decode cX10_thing 75 = .ok (.iaload, 1) := wn_at gdX10_thing_70 3 rfl
theorem dX10_thing_76 : decode cX10_thing 76 = .ok (.ireturn, 1) := wn_at gdX10_thing_70 4 rfl
theorem dX10_thing_77 : decode cX10_thing 77 = .ok (.aload_n 3, 1) := wn_at gdX10_thing_70 5 rfl
theorem dX10_thing_78 : decode cX10_thing 78 = .ok (.getfield 179, 3) := wn_at gdX10_thing_70 6 rfl
theorem dX10_thing_81 : decode cX10_thing 81 = .ok (.iload_n 1, 1) := wn_at gdX10_thing_70 7 rfl
theorem dX10_thing_82 : decode cX10_thing 82 = .ok (.iaload, 1) := wn_at gdX10_thing_70 8 rfl
theorem dX10_thing_83 : decode cX10_thing 83 = .ok (.ireturn, 1) := wn_at gdX10_thing_70 9 rfl
theorem gdX10_age_0 : ∀ e ∈ ([(0, .aload_n 0, 1), (1, .iload_n 1, 1), (2, .invokevirtual 167, 3), (5, .ifCond .eq 10, 3), (8, .iload_n 2, 1), (9, .invokestatic 182, 3), (12, .ifCond .ne 7, 3), (15, .ldc2_w 185, 3), (18, .lreturn, 1), (19, .aload_n 0, 1)] : List (Nat × Instr × Nat)), decode cX10_age e.1 = .ok e.2 := wn_all _ 0 (by decide +kernel)
theorem dX10_age_0 : decode cX10_age 0 = .ok (.aload_n 0, 1) := wn_at gdX10_age_0 0 rfl
theorem dX10_age_1 : decode cX10_age 1 = .ok (.iload_n 1, 1) := wn_at gdX10_age_0 1 rfl
theorem dX10_age_2 : decode cX10_age 2 = .ok (.invokevirtual 167, 3) := wn_at gdX10_age_0 2 rfl
theorem dX10_age_5 : decode cX10_age 5 = .ok (.ifCond .eq 10, 3) := wn_at gdX10_age_0 3 rfl
theorem dX10_age_8 : decode cX10_age 8 = .ok (.iload_n 2, 1) := wn_at gdX10_age_0 4 rfl
theorem dX10_age_9 : decode cX10_age 9 = .ok (.invokestatic 182, 3) := wn_at gdX10_age_0 5 rfl
theorem dX10_age_12 : decode cX10_age 12 = .ok (.ifCond .ne 7, 3) := wn_at gdX10_age_0 6 rfl
theorem dX10_age_15 : decode cX10_age 15 = .ok (.ldc2_w 185, 3) := wn_at gdX10_age_0 7 rfl
theorem dX10_age_18 : decode cX10_age 18 = .ok (.lreturn, 1) := wn_at gdX10_age_0 8 rfl
theorem dX10_age_19 : decode cX10_age 19 = .ok (.aload_n 0, 1) := wn_at gdX10_age_0 9 rfl
theorem gdX10_age_20 : ∀ e ∈ ([(20, .getfield 19, 3), (23, .getfield 109, 3), (26, .getfield 187, 3), (29, .iload_n 1, 1), (30, .laload, 1), (31, .ldc2_w 145, 3), (34, .iload_n 2, 1), (35, .invokestatic 147, 3), (38, .lreturn, 1)] : List (Nat × Instr × Nat)), decode cX10_age e.1 = .ok e.2 := wn_all _ 20 (by decide +kernel)
theorem dX10_age_20 : decode cX10_age 20 = .ok (.getfield 19, 3) := wn_at gdX10_age_20 0 rfl
theorem dX10_age_23 : decode cX10_age 23 = .ok (.getfield 109, 3) := wn_at gdX10_age_20 1 rfl
theorem dX10_age_26 : decode cX10_age 26 = .ok (.getfield 187, 3) := wn_at gdX10_age_20 2 rfl
theorem dX10_age_29 : decode cX10_age 29 = .ok (.iload_n 1, 1) := wn_at gdX10_age_20 3 rfl
theorem dX10_age_30 : decode cX10_age 30 = .ok (.laload, 1) := wn_at gdX10_age_20 4 rfl
theorem dX10_age_31 : decode cX10_age 31 = .ok (.ldc2_w 145, 3) := wn_at gdX10_age_20 5 rfl
theorem dX10_age_34 : decode cX10_age 34 = .ok (.iload_n 2, 1) := wn_at gdX10_age_20 6 rfl
theorem dX10_age_35 : decode cX10_age 35 = .ok (.invokestatic 147, 3) := wn_at gdX10_age_20 7 rfl
theorem dX10_age_38 : decode cX10_age 38 = .ok (.lreturn, 1) := wn_at gdX10_age_20 8 rfl
theorem gdX10_older_0 : ∀ e ∈ ([(0, .aload_n 0, 1), (1, .iload_n 1, 1), (2, .invokevirtual 167, 3), (5, .ifCond .eq 11, 3), (8, .aload_n 0, 1), (9, .iload_n 2, 1), (10, .invokevirtual 167, 3), (13, .ifCond .ne 6, 3), (16, .bipush (-2), 2), (18, .ireturn, 1)] : List (Nat × Instr × Nat)), decode cX10_older e.1 = .ok e.2 := wn_all _ 0 (by decide +kernel)
theorem dX10_older_0 : decode cX10_older 0 = .ok (.aload_n 0, 1) := wn_at gdX10_older_0 0 rfl
theorem dX10_older_1 : decode cX10_older 1 = .ok (.iload_n 1, 1) := wn_at gdX10_older_0 1 rfl
theorem dX10_older_2 : decode cX10_older 2 = .ok (.invokevirtual 167, 3) := wn_at gdX10_older_0 2 rfl
theorem dX10_older_5 : decode cX10_older 5 = .ok (.ifCond .eq 11, 3) := wn_at gdX10_older_0 3 rfl
theorem dX10_older_8 : decode cX10_older 8 = .ok (.aload_n 0, 1) := wn_at gdX10_older_0 4 rfl
theorem dX10_older_9 : decode cX10_older 9 = .ok (.iload_n 2, 1) := wn_at gdX10_older_0 5 rfl
theorem dX10_older_10 : decode cX10_older 10 = .ok (.invokevirtual 167, 3) := wn_at gdX10_older_0 6 rfl
theorem dX10_older_13 : decode cX10_older 13 = .ok (.ifCond .ne 6, 3) := wn_at gdX10_older_0 7 rfl
theorem dX10_older_16 : decode cX10_older 16 = .ok (.bipush (-2), 2) := wn_at gdX10_older_0 8 rfl
theorem dX10_older_18 : decode cX10_older 18 = .ok (.ireturn, 1) := wn_at gdX10_older_0 9 rfl
theorem gdX10_older_19 : ∀ e ∈ ([(19, .aload_n 0, 1), (20, .getfield 19, 3), (23, .getfield 109, 3), (26, .getfield 187, 3), (29, .iload_n 1, 1), (30, .laload, 1), (31, .aload_n 0, 1), (32, .getfield 19, 3), (35, .getfield 109, 3), (38, .getfield 187, 3)] : List (Nat × Instr × Nat)), decode cX10_older e.1 = .ok e.2 := wn_all _ 19 (by decide +kernel)
theorem dX10_older_19 : decode cX10_older 19 = .ok (.aload_n 0, 1) := wn_at gdX10_older_19 0 rfl
theorem dX10_older_20 : decode cX10_older 20 = .ok (.getfield 19, 3) := wn_at gdX10_older_19 1 rfl
theorem dX10_older_23 : decode cX10_older 23 = .ok (.getfield 109, 3) := wn_at gdX10_older_19 2 rfl
theorem dX10_older_26 : decode cX10_older 26 = .ok (.getfield 187, 3) := wn_at gdX10_older_19 3 rfl
theorem dX10_older_29 : decode cX10_older 29 = .ok (.iload_n 1, 1) := wn_at gdX10_older_19 4 rfl
theorem dX10_older_30 : decode cX10_older 30 = .ok (.laload, 1) := wn_at gdX10_older_19 5 rfl
theorem dX10_older_31 : decode cX10_older 31 = .ok (.aload_n 0, 1) := wn_at gdX10_older_19 6 rfl
theorem dX10_older_32 : decode cX10_older 32 = .ok (.getfield 19, 3) := wn_at gdX10_older_19 7 rfl
theorem dX10_older_35 : decode cX10_older 35 = .ok (.getfield 109, 3) := wn_at gdX10_older_19 8 rfl
theorem dX10_older_38 : decode cX10_older 38 = .ok (.getfield 187, 3) := wn_at gdX10_older_19 9 rfl
theorem gdX10_older_41 : ∀ e ∈ ([(41, .iload_n 2, 1), (42, .laload, 1), (43, .lsub, 1), (44, .lstore_n 3, 1), (45, .lload_n 3, 1), (46, .lconst 0, 1), (47, .lcmp, 1), (48, .ifCond .ne 5, 3), (51, .iconst 0, 1), (52, .ireturn, 1)] : List (Nat × Instr × Nat)), decode cX10_older e.1 = .ok e.2 := wn_all _ 41 (by decide +kernel)
theorem dX10_older_41 : decode cX10_older 41 = .ok (.iload_n 2, 1) := wn_at gdX10_older_41 0 rfl
theorem dX10_older_42 : decode cX10_older 42 = .ok (.laload, 1) := wn_at gdX10_older_41 1 rfl
theorem dX10_older_43 : decode cX10_older 43 = .ok (.lsub, 1) := wn_at gdX10_older_41 2 rfl
theorem dX10_older_44 : decode cX10_older 44 = .ok (.lstore_n 3, 1) := wn_at gdX10_older_41 3 rfl
theorem dX10_older_45 : decode cX10_older 45 = .ok (.lload_n 3, 1) := wn_at gdX10_older_41 4 rfl
theorem dX10_older_46 : decode cX10_older 46 = .ok (.lconst 0, 1) := wn_at gdX10_older_41 5 rfl
theorem dX10_older_47 : decode cX10_older 47 = .ok (.lcmp, 1) := wn_at gdX10_older_41 6 rfl
theorem dX10_older_48 : decode cX10_older 48 = .ok (.ifCond .ne 5, 3) := wn_at gdX10_older_41 7 rfl
theorem dX10_older_51 : decode cX10_older 51 = .ok (.iconst 0, 1) := wn_at gdX10_older_41 8 rfl
theorem dX10_older_52 : decode cX10_older 52 = .ok (.ireturn, 1) := wn_at gdX10_older_41 9 rfl
theorem gdX10_older_53 : ∀ e ∈ ([(53, .lload_n 3, 1), (54, .lconst 0, 1), (55, .lcmp, 1), (56, .ifCond .le 7, 3), (59, .iconst 1, 1), (60, .goto 4, 3), (63, .iconst (-1), 1), (64, .ireturn, 1)] : List (Nat × Instr × Nat)), decode cX10_older e.1 = .ok e.2 := wn_all _ 53 (by decide +kernel)
theorem dX10_older_53 : decode cX10_older 53 = .ok (.lload_n 3, 1) := wn_at gdX10_older_53 0 rfl
theorem dX10_older_54 : decode cX10_older 54 = .ok (.lconst 0, 1) := wn_at gdX10_older_53 1 rfl
theorem dX10_older_55 : decode cX10_older 55 = .ok (.lcmp, 1) := wn_at gdX10_older_53 2 rfl
theorem dX10_older_56 : decode cX10_older 56 = .ok (.ifCond .le 7, 3) := wn_at gdX10_older_53 3 rfl
theorem dX10_older_59 : decode cX10_older 59 = .ok (.iconst 1, 1) := wn_at gdX10_older_53 4 rfl
theorem dX10_older_60 : decode cX10_older 60 = .ok (.goto 4, 3) := wn_at gdX10_older_53 5 rfl
theorem dX10_older_63 : decode cX10_older 63 = .ok (.iconst (-1), 1) := wn_at gdX10_older_53 6 rfl
theorem dX10_older_64 : decode cX10_older 64 = .ok (.ireturn, 1) := wn_at gdX10_older_53 7 rfl
theorem gdX10_go_0 : ∀ e ∈ ([(0, .aload_n 0, 1), (1, .iload_n 1, 1), (2, .invokevirtual 190, 3), (5, .ifCond .eq 23, 3), (8, .iload_n 2, 1), (9, .iconst 0, 1), (10, .aload_n 0, 1), (11, .getfield 19, 3), (14, .getfield 102, 3), (17, .getfield 151, 3)] : List (Nat × Instr × Nat)), decode cX10_go e.1 = .ok e.2 := wn_all _ 0 (by decide +kernel)
theorem dX10_go_0 : decode cX10_go 0 = .ok (.aload_n 0, 1) := wn_at gdX10_go_0 0 rfl
theorem dX10_go_1 : decode cX10_go 1 = .ok (.iload_n 1, 1) := wn_at gdX10_go_0 1 rfl
theorem dX10_go_2 : decode cX10_go 2 = .ok (.invokevirtual 190, 3) := wn_at gdX10_go_0 2 rfl
theorem dX10_go_5 : decode cX10_go 5 = .ok (.ifCond .eq 23, 3) := wn_at gdX10_go_0 3 rfl
theorem dX10_go_8 : decode cX10_go 8 = .ok (.iload_n 2, 1) := wn_at gdX10_go_0 4 rfl
theorem dX10_go_9 : decode cX10_go 9 = .ok (.iconst 0, 1) := wn_at gdX10_go_0 5 rfl
theorem dX10_go_10 : decode cX10_go 10 = .ok (.aload_n 0, 1) := wn_at gdX10_go_0 6 rfl
theorem dX10_go_11 : decode cX10_go 11 = .ok (.getfield 19, 3) := wn_at gdX10_go_0 7 rfl
theorem dX10_go_14 : decode cX10_go 14 = .ok (.getfield 102, 3) := wn_at gdX10_go_0 8 rfl
theorem dX10_go_17 : decode cX10_go 17 = .ok (.getfield 151, 3) := wn_at gdX10_go_0 9 rfl
theorem gdX10_go_20 : ∀ e ∈ ([(20, .iconst 1, 1), (21, .isub, 1), (22, .invokestatic 91, 3), (25, .ifCond .ne 5, 3), (28, .iconst 0, 1), (29, .ireturn, 1), (30, .aload_n 0, 1), (31, .getfield 19, 3), (34, .getfield 109, 3), (37, .aload_n 0, 1)] : List (Nat × Instr × Nat)), decode cX10_go e.1 = .ok e.2 := wn_all _ 20 (by decide +kernel)
theorem dX10_go_20 : decode cX10_go 20 = .ok (.iconst 1, 1) := wn_at gdX10_go_20 0 rfl
theorem dX10_go_21 : decode cX10_go 21 = .ok (.isub, 1) := wn_at gdX10_go_20 1 rfl
theorem dX10_go_22 : decode cX10_go 22 = .ok (.invokestatic 91, 3) := wn_at gdX10_go_20 2 rfl
theorem dX10_go_25 : decode cX10_go 25 = .ok (.ifCond .ne 5, 3) := wn_at gdX10_go_20 3 rfl
theorem dX10_go_28 : decode cX10_go 28 = .ok (.iconst 0, 1) := wn_at gdX10_go_20 4 rfl
theorem dX10_go_29 : decode cX10_go 29 = .ok (.ireturn, 1) := wn_at gdX10_go_20 5 rfl
theorem dX10_go_30 : decode cX10_go 30 = .ok (.aload_n 0, 1) := wn_at gdX10_go_20 6 rfl
theorem dX10_go_31 : decode cX10_go 31 = .ok (.getfield 19, 3) := wn_at gdX10_go_20 7 rfl
theorem dX10_go_34 : decode cX10_go 34 = .ok (.getfield 109, 3) := wn_at gdX10_go_20 8 rfl
theorem dX10_go_37 : decode cX10_go 37 = .ok (.aload_n 0, 1) := wn_at gdX10_go_20 9 rfl
theorem gdX10_go_38 : ∀ e ∈ ([(38, .getfield 19, 3), (41, .getfield 102, 3), (44, .iload_n 1, 1), (45, .iload_n 2, 1), (46, .invokevirtual 193, 3), (49, .ireturn, 1)] : List (Nat × Instr × Nat)), decode cX10_go e.1 = .ok e.2 := wn_all _ 38 (by decide +kernel)
theorem dX10_go_38 : decode cX10_go 38 = .ok (.getfield 19, 3) := wn_at gdX10_go_38 0 rfl
theorem dX10_go_41 : decode cX10_go 41 = .ok (.getfield 102, 3) := wn_at gdX10_go_38 1 rfl
theorem dX10_go_44 : decode cX10_go 44 = .ok (.iload_n 1, 1) := wn_at gdX10_go_38 2 rfl
theorem dX10_go_45 : decode cX10_go 45 = .ok (.iload_n 2, 1) := wn_at gdX10_go_38 3 rfl
theorem dX10_go_46 : decode cX10_go 46 = .ok (.invokevirtual 193, 3) := wn_at gdX10_go_38 4 rfl
theorem dX10_go_49 : decode cX10_go 49 = .ok (.ireturn, 1) := wn_at gdX10_go_38 5 rfl
theorem gdX10_tick_0 : ∀ e ∈ ([(0, .aload_n 0, 1), (1, .getfield 19, 3), (4, .getfield 109, 3), (7, .astore_n 3, 1), (8, .aload_n 0, 1), (9, .iload_n 1, 1), (10, .invokevirtual 197, 3), (13, .ifCond .eq 26, 3), (16, .iload_n 2, 1), (17, .iconst 1, 1)] : List (Nat × Instr × Nat)), decode cX10_tick e.1 = .ok e.2 := wn_all _ 0 (by decide +kernel)
theorem dX10_tick_0 : decode cX10_tick 0 = .ok (.aload_n 0, 1) := wn_at gdX10_tick_0 0 rfl
theorem dX10_tick_1 : decode cX10_tick 1 = .ok (.getfield 19, 3) := wn_at gdX10_tick_0 1 rfl
theorem dX10_tick_4 : decode cX10_tick 4 = .ok (.getfield 109, 3) := wn_at gdX10_tick_0 2 rfl
theorem dX10_tick_7 : decode cX10_tick 7 = .ok (.astore_n 3, 1) := wn_at gdX10_tick_0 3 rfl
theorem dX10_tick_8 : decode cX10_tick 8 = .ok (.aload_n 0, 1) := wn_at gdX10_tick_0 4 rfl
theorem dX10_tick_9 : decode cX10_tick 9 = .ok (.iload_n 1, 1) := wn_at gdX10_tick_0 5 rfl
theorem dX10_tick_10 : decode cX10_tick 10 = .ok (.invokevirtual 197, 3) := wn_at gdX10_tick_0 6 rfl
theorem dX10_tick_13 : decode cX10_tick 13 = .ok (.ifCond .eq 26, 3) := wn_at gdX10_tick_0 7 rfl
theorem dX10_tick_16 : decode cX10_tick 16 = .ok (.iload_n 2, 1) := wn_at gdX10_tick_0 8 rfl
theorem dX10_tick_17 : decode cX10_tick 17 = .ok (.iconst 1, 1) := wn_at gdX10_tick_0 9 rfl
theorem gdX10_tick_18 : ∀ e ∈ ([(18, .sipush 200, 3), (21, .invokestatic 91, 3), (24, .ifCond .eq 15, 3), (27, .aload_n 3, 1), (28, .getfield 200, 3), (31, .iload_n 2, 1), (32, .iadd, 1), (33, .sipush 9999, 3), (36, .if_icmp .le 5, 3), (39, .iconst (-1), 1)] : List (Nat × Instr × Nat)), decode cX10_tick e.1 = .ok e.2 := wn_all _ 18 (by decide +kernel)
theorem dX10_tick_18 : decode cX10_tick 18 = .ok (.sipush 200, 3) := wn_at gdX10_tick_18 0 rfl
theorem dX10_tick_21 : decode cX10_tick 21 = .ok (.invokestatic 91, 3) := wn_at gdX10_tick_18 1 rfl
theorem dX10_tick_24 : decode cX10_tick 24 = .ok (.ifCond .eq 15, 3) := wn_at gdX10_tick_18 2 rfl
theorem dX10_tick_27 : decode cX10_tick 27 = .ok (.aload_n 3, 1) := wn_at gdX10_tick_18 3 rfl
theorem dX10_tick_28 : decode cX10_tick 28 = .ok (.getfield 200, 3) := wn_at gdX10_tick_18 4 rfl
theorem dX10_tick_31 : decode cX10_tick 31 = .ok (.iload_n 2, 1) := wn_at gdX10_tick_18 5 rfl
theorem dX10_tick_32 : decode cX10_tick 32 = .ok (.iadd, 1) := wn_at gdX10_tick_18 6 rfl
theorem dX10_tick_33 : decode cX10_tick 33 = .ok (.sipush 9999, 3) := wn_at gdX10_tick_18 7 rfl
theorem dX10_tick_36 : decode cX10_tick 36 = .ok (.if_icmp .le 5, 3) := wn_at gdX10_tick_18 8 rfl
theorem dX10_tick_39 : decode cX10_tick 39 = .ok (.iconst (-1), 1) := wn_at gdX10_tick_18 9 rfl
theorem gdX10_tick_40 : ∀ e ∈ ([(40, .ireturn, 1), (41, .aload_n 3, 1), (42, .aload_n 0, 1), (43, .getfield 19, 3), (46, .getfield 102, 3), (49, .aload_n 0, 1), (50, .iload_n 1, 1), (51, .invokevirtual 203, 3), (54, .iload_n 2, 1), (55, .invokevirtual 207, 3)] : List (Nat × Instr × Nat)), decode cX10_tick e.1 = .ok e.2 := wn_all _ 40 (by decide +kernel)
theorem dX10_tick_40 : decode cX10_tick 40 = .ok (.ireturn, 1) := wn_at gdX10_tick_40 0 rfl
theorem dX10_tick_41 : decode cX10_tick 41 = .ok (.aload_n 3, 1) := wn_at gdX10_tick_40 1 rfl
theorem dX10_tick_42 : decode cX10_tick 42 = .ok (.aload_n 0, 1) := wn_at gdX10_tick_40 2 rfl
theorem dX10_tick_43 : decode cX10_tick 43 = .ok (.getfield 19, 3) := wn_at gdX10_tick_40 3 rfl
theorem dX10_tick_46 : decode cX10_tick 46 = .ok (.getfield 102, 3) := wn_at gdX10_tick_40 4 rfl
theorem dX10_tick_49 : decode cX10_tick 49 = .ok (.aload_n 0, 1) := wn_at gdX10_tick_40 5 rfl
theorem dX10_tick_50 : decode cX10_tick 50 = .ok (.iload_n 1, 1) := wn_at gdX10_tick_40 6 rfl
theorem dX10_tick_51 : decode cX10_tick 51 = .ok (.invokevirtual 203, 3) := wn_at gdX10_tick_40 7 rfl
theorem dX10_tick_54 : decode cX10_tick 54 = .ok (.iload_n 2, 1) := wn_at gdX10_tick_40 8 rfl
theorem dX10_tick_55 : decode cX10_tick 55 = .ok (.invokevirtual 207, 3) := wn_at gdX10_tick_40 9 rfl
theorem gdX10_tick_58 : ∀ e ∈ ([(58, .aload_n 3, 1), (59, .getfield 200, 3), (62, .ireturn, 1)] : List (Nat × Instr × Nat)), decode cX10_tick e.1 = .ok e.2 := wn_all _ 58 (by decide +kernel)
theorem dX10_tick_58 : decode cX10_tick 58 = .ok (.aload_n 3, 1) := wn_at gdX10_tick_58 0 rfl
theorem dX10_tick_59 : decode cX10_tick 59 = .ok (.getfield 200, 3) := wn_at gdX10_tick_58 1 rfl
theorem dX10_tick_62 : decode cX10_tick 62 = .ok (.ireturn, 1) := wn_at gdX10_tick_58 2 rfl
theorem gdX10_ahead_0 : ∀ e ∈ ([(0, .iload_n 1, 1), (1, .iconst 0, 1), (2, .aload_n 0, 1), (3, .getfield 79, 3), (6, .iconst 1, 1), (7, .isub, 1), (8, .invokestatic 91, 3), (11, .ifCond .eq 14, 3), (14, .iload_n 2, 1), (15, .iconst 0, 1)] : List (Nat × Instr × Nat)), decode cX10_ahead e.1 = .ok e.2 := wn_all _ 0 (by decide +kernel)
theorem dX10_ahead_0 : decode cX10_ahead 0 = .ok (.iload_n 1, 1) := wn_at gdX10_ahead_0 0 rfl
theorem dX10_ahead_1 : decode cX10_ahead 1 = .ok (.iconst 0, 1) := wn_at gdX10_ahead_0 1 rfl
theorem dX10_ahead_2 : decode cX10_ahead 2 = .ok (.aload_n 0, 1) := wn_at gdX10_ahead_0 2 rfl
theorem dX10_ahead_3 : decode cX10_ahead 3 = .ok (.getfield 79, 3) := wn_at gdX10_ahead_0 3 rfl
theorem dX10_ahead_6 : decode cX10_ahead 6 = .ok (.iconst 1, 1) := wn_at gdX10_ahead_0 4 rfl
theorem dX10_ahead_7 : decode cX10_ahead 7 = .ok (.isub, 1) := wn_at gdX10_ahead_0 5 rfl
theorem dX10_ahead_8 : decode cX10_ahead 8 = .ok (.invokestatic 91, 3) := wn_at gdX10_ahead_0 6 rfl
theorem dX10_ahead_11 : decode cX10_ahead 11 = .ok (.ifCond .eq 14, 3) := wn_at gdX10_ahead_0 7 rfl
theorem dX10_ahead_14 : decode cX10_ahead 14 = .ok (.iload_n 2, 1) := wn_at gdX10_ahead_0 8 rfl
theorem dX10_ahead_15 : decode cX10_ahead 15 = .ok (.iconst 0, 1) := wn_at gdX10_ahead_0 9 rfl
theorem gdX10_ahead_16 : ∀ e ∈ ([(16, .sipush 200, 3), (19, .invokestatic 91, 3), (22, .ifCond .ne 7, 3), (25, .ldc2_w 185, 3), (28, .lreturn, 1), (29, .aload_n 0, 1), (30, .iload_n 3, 1), (31, .invokevirtual 167, 3), (34, .ifCond .eq 13, 3), (37, .iload 4, 2)] : List (Nat × Instr × Nat)), decode cX10_ahead e.1 = .ok e.2 := wn_all _ 16 (by decide +kernel)
theorem dX10_ahead_16 : decode cX10_ahead 16 = .ok (.sipush 200, 3) := wn_at gdX10_ahead_16 0 rfl
theorem dX10_ahead_19 : decode cX10_ahead 19 = .ok (.invokestatic 91, 3) := wn_at gdX10_ahead_16 1 rfl
theorem dX10_ahead_22 : decode cX10_ahead 22 = .ok (.ifCond .ne 7, 3) := wn_at gdX10_ahead_16 2 rfl
theorem dX10_ahead_25 : decode cX10_ahead 25 = .ok (.ldc2_w 185, 3) := wn_at gdX10_ahead_16 3 rfl
theorem dX10_ahead_28 : decode cX10_ahead 28 = .ok (.lreturn, 1) := wn_at gdX10_ahead_16 4 rfl
theorem dX10_ahead_29 : decode cX10_ahead 29 = .ok (.aload_n 0, 1) := wn_at gdX10_ahead_16 5 rfl
theorem dX10_ahead_30 : decode cX10_ahead 30 = .ok (.iload_n 3, 1) := wn_at gdX10_ahead_16 6 rfl
theorem dX10_ahead_31 : decode cX10_ahead 31 = .ok (.invokevirtual 167, 3) := wn_at gdX10_ahead_16 7 rfl
theorem dX10_ahead_34 : decode cX10_ahead 34 = .ok (.ifCond .eq 13, 3) := wn_at gdX10_ahead_16 8 rfl
theorem dX10_ahead_37 : decode cX10_ahead 37 = .ok (.iload 4, 2) := wn_at gdX10_ahead_16 9 rfl
theorem gdX10_ahead_39 : ∀ e ∈ ([(39, .iconst 0, 1), (40, .iconst 3, 1), (41, .invokestatic 91, 3), (44, .ifCond .ne 7, 3), (47, .ldc2_w 185, 3), (50, .lreturn, 1), (51, .aload_n 0, 1), (52, .iload_n 1, 1), (53, .iload_n 2, 1), (54, .invokevirtual 211, 3)] : List (Nat × Instr × Nat)), decode cX10_ahead e.1 = .ok e.2 := wn_all _ 39 (by decide +kernel)
theorem dX10_ahead_39 : decode cX10_ahead 39 = .ok (.iconst 0, 1) := wn_at gdX10_ahead_39 0 rfl
theorem dX10_ahead_40 : decode cX10_ahead 40 = .ok (.iconst 3, 1) := wn_at gdX10_ahead_39 1 rfl
theorem dX10_ahead_41 : decode cX10_ahead 41 = .ok (.invokestatic 91, 3) := wn_at gdX10_ahead_39 2 rfl
theorem dX10_ahead_44 : decode cX10_ahead 44 = .ok (.ifCond .ne 7, 3) := wn_at gdX10_ahead_39 3 rfl
theorem dX10_ahead_47 : decode cX10_ahead 47 = .ok (.ldc2_w 185, 3) := wn_at gdX10_ahead_39 4 rfl
theorem dX10_ahead_50 : decode cX10_ahead 50 = .ok (.lreturn, 1) := wn_at gdX10_ahead_39 5 rfl
theorem dX10_ahead_51 : decode cX10_ahead 51 = .ok (.aload_n 0, 1) := wn_at gdX10_ahead_39 6 rfl
theorem dX10_ahead_52 : decode cX10_ahead 52 = .ok (.iload_n 1, 1) := wn_at gdX10_ahead_39 7 rfl
theorem dX10_ahead_53 : decode cX10_ahead 53 = .ok (.iload_n 2, 1) := wn_at gdX10_ahead_39 8 rfl
theorem dX10_ahead_54 : decode cX10_ahead 54 = .ok (.invokevirtual 211, 3) := wn_at gdX10_ahead_39 9 rfl
theorem gdX10_ahead_57 : ∀ e ∈ ([(57, .iload 4, 2), (59, .ifCond .ne 31, 3), (62, .aload_n 0, 1), (63, .getfield 43, 3), (66, .iload_n 3, 1), (67, .invokevirtual 215, 3), (70, .ifCond .eq 16, 3), (73, .aload_n 0, 1), (74, .getfield 43, 3), (77, .getfield 170, 3)] : List (Nat × Instr × Nat)), decode cX10_ahead e.1 = .ok e.2 := wn_all _ 57 (by decide +kernel)
theorem dX10_ahead_57 : decode cX10_ahead 57 = .ok (.iload 4, 2) := wn_at gdX10_ahead_57 0 rfl
theorem dX10_ahead_59 : decode cX10_ahead 59 = .ok (.ifCond .ne 31, 3) := wn_at gdX10_ahead_57 1 rfl
theorem dX10_ahead_62 : decode cX10_ahead 62 = .ok (.aload_n 0, 1) := wn_at gdX10_ahead_57 2 rfl
theorem dX10_ahead_63 : decode cX10_ahead 63 = .ok (.getfield 43, 3) := wn_at gdX10_ahead_57 3 rfl
theorem dX10_ahead_66 : decode cX10_ahead 66 = .ok (.iload_n 3, 1) := wn_at gdX10_ahead_57 4 rfl
theorem dX10_ahead_67 : decode cX10_ahead 67 = .ok (.invokevirtual 215, 3) := wn_at gdX10_ahead_57 5 rfl
theorem dX10_ahead_70 : decode cX10_ahead 70 = .ok (.ifCond .eq 16, 3) := wn_at gdX10_ahead_57 6 rfl
theorem dX10_ahead_73 : decode cX10_ahead 73 = .ok (.aload_n 0, 1) := wn_at gdX10_ahead_57 7 rfl
theorem dX10_ahead_74 : decode cX10_ahead 74 = .ok (.getfield 43, 3) := wn_at gdX10_ahead_57 8 rfl
theorem dX10_ahead_77 : decode cX10_ahead 77 = .ok (.getfield 170, 3) := wn_at gdX10_ahead_57 9 rfl
theorem gdX10_ahead_80 : ∀ e ∈ ([(80, .iload_n 3, 1), (81, .iaload, 1), (82, .i2l, 1), (83, .goto 6, 3), (86, .ldc2_w 216, 3), (89, .lreturn, 1), (90, .iload 4, 2), (92, .iconst 3, 1), (93, .if_icmp .ne 12, 3), (96, .aload_n 0, 1)] : List (Nat × Instr × Nat)), decode cX10_ahead e.1 = .ok e.2 := wn_all _ 80 (by decide +kernel)
theorem dX10_ahead_80 : decode cX10_ahead 80 = .ok (.iload_n 3, 1) := wn_at gdX10_ahead_80 0 rfl
theorem dX10_ahead_81 : decode cX10_ahead 81 = .ok (.iaload, 1) := wn_at gdX10_ahead_80 1 rfl
theorem dX10_ahead_82 : decode cX10_ahead 82 = .ok (.i2l, 1) := wn_at gdX10_ahead_80 2 rfl
theorem dX10_ahead_83 : decode cX10_ahead 83 = .ok (.goto 6, 3) := wn_at gdX10_ahead_80 3 rfl
theorem dX10_ahead_86 : decode cX10_ahead 86 = .ok (.ldc2_w 216, 3) := wn_at gdX10_ahead_80 4 rfl
theorem dX10_ahead_89 : decode cX10_ahead 89 = .ok (.lreturn, 1) := wn_at gdX10_ahead_80 5 rfl
theorem dX10_ahead_90 : decode cX10_ahead 90 = .ok (.iload 4, 2) := wn_at gdX10_ahead_80 6 rfl
theorem dX10_ahead_92 : decode cX10_ahead 92 = .ok (.iconst 3, 1) := wn_at gdX10_ahead_80 7 rfl
theorem dX10_ahead_93 : decode cX10_ahead 93 = .ok (.if_icmp .ne 12, 3) := wn_at gdX10_ahead_80 8 rfl
theorem dX10_ahead_96 : decode cX10_ahead 96 = .ok (.aload_n 0, 1) := wn_at gdX10_ahead_80 9 rfl
theorem gdX10_ahead_97 : ∀ e ∈ ([(97, .getfield 43, 3), (100, .invokevirtual 218, 3), (103, .i2l, 1), (104, .lreturn, 1), (105, .aload_n 0, 1), (106, .getfield 43, 3), (109, .getfield 187, 3), (112, .iload_n 3, 1), (113, .laload, 1), (114, .ldc2_w 145, 3)] : List (Nat × Instr × Nat)), decode cX10_ahead e.1 = .ok e.2 := wn_all _ 97 (by decide +kernel)
theorem dX10_ahead_97 : decode cX10_ahead 97 = .ok (.getfield 43, 3) := wn_at gdX10_ahead_97 0 rfl
theorem dX10_ahead_100 : decode cX10_ahead 100 = .ok (.invokevirtual 218, 3) := wn_at gdX10_ahead_97 1 rfl
theorem dX10_ahead_103 : decode cX10_ahead 103 = .ok (.i2l, 1) := wn_at gdX10_ahead_97 2 rfl
theorem dX10_ahead_104 : decode cX10_ahead 104 = .ok (.lreturn, 1) := wn_at gdX10_ahead_97 3 rfl
theorem dX10_ahead_105 : decode cX10_ahead 105 = .ok (.aload_n 0, 1) := wn_at gdX10_ahead_97 4 rfl
theorem dX10_ahead_106 : decode cX10_ahead 106 = .ok (.getfield 43, 3) := wn_at gdX10_ahead_97 5 rfl
theorem dX10_ahead_109 : decode cX10_ahead 109 = .ok (.getfield 187, 3) := wn_at gdX10_ahead_97 6 rfl
theorem dX10_ahead_112 : decode cX10_ahead 112 = .ok (.iload_n 3, 1) := wn_at gdX10_ahead_97 7 rfl
theorem dX10_ahead_113 : decode cX10_ahead 113 = .ok (.laload, 1) := wn_at gdX10_ahead_97 8 rfl
theorem dX10_ahead_114 : decode cX10_ahead 114 = .ok (.ldc2_w 145, 3) := wn_at gdX10_ahead_97 9 rfl
theorem gdX10_ahead_117 : ∀ e ∈ ([(117, .iload 4, 2), (119, .iconst 1, 1), (120, .isub, 1), (121, .invokestatic 147, 3), (124, .lreturn, 1)] : List (Nat × Instr × Nat)), decode cX10_ahead e.1 = .ok e.2 := wn_all _ 117 (by decide +kernel)
theorem dX10_ahead_117 : decode cX10_ahead 117 = .ok (.iload 4, 2) := wn_at gdX10_ahead_117 0 rfl
theorem dX10_ahead_119 : decode cX10_ahead 119 = .ok (.iconst 1, 1) := wn_at gdX10_ahead_117 1 rfl
theorem dX10_ahead_120 : decode cX10_ahead 120 = .ok (.isub, 1) := wn_at gdX10_ahead_117 2 rfl
theorem dX10_ahead_121 : decode cX10_ahead 121 = .ok (.invokestatic 147, 3) := wn_at gdX10_ahead_117 3 rfl
theorem dX10_ahead_124 : decode cX10_ahead 124 = .ok (.lreturn, 1) := wn_at gdX10_ahead_117 4 rfl
theorem gdX10_far_0 : ∀ e ∈ ([(0, .aload_n 0, 1), (1, .iload_n 1, 1), (2, .invokevirtual 133, 3), (5, .ifCond .eq 11, 3), (8, .aload_n 0, 1), (9, .iload_n 2, 1), (10, .invokevirtual 133, 3), (13, .ifCond .ne 5, 3), (16, .iconst (-1), 1), (17, .ireturn, 1)] : List (Nat × Instr × Nat)), decode cX10_far e.1 = .ok e.2 := wn_all _ 0 (by decide +kernel)
theorem dX10_far_0 : decode cX10_far 0 = .ok (.aload_n 0, 1) := wn_at gdX10_far_0 0 rfl
theorem dX10_far_1 : decode cX10_far 1 = .ok (.iload_n 1, 1) := wn_at gdX10_far_0 1 rfl
theorem dX10_far_2 : decode cX10_far 2 = .ok (.invokevirtual 133, 3) := wn_at gdX10_far_0 2 rfl
theorem dX10_far_5 : decode cX10_far 5 = .ok (.ifCond .eq 11, 3) := wn_at gdX10_far_0 3 rfl
theorem dX10_far_8 : decode cX10_far 8 = .ok (.aload_n 0, 1) := wn_at gdX10_far_0 4 rfl
theorem dX10_far_9 : decode cX10_far 9 = .ok (.iload_n 2, 1) := wn_at gdX10_far_0 5 rfl
theorem dX10_far_10 : decode cX10_far 10 = .ok (.invokevirtual 133, 3) := wn_at gdX10_far_0 6 rfl
theorem dX10_far_13 : decode cX10_far 13 = .ok (.ifCond .ne 5, 3) := wn_at gdX10_far_0 7 rfl
theorem dX10_far_16 : decode cX10_far 16 = .ok (.iconst (-1), 1) := wn_at gdX10_far_0 8 rfl
theorem dX10_far_17 : decode cX10_far 17 = .ok (.ireturn, 1) := wn_at gdX10_far_0 9 rfl
theorem gdX10_far_18 : ∀ e ∈ ([(18, .aload_n 0, 1), (19, .getfield 19, 3), (22, .getfield 102, 3), (25, .iload_n 1, 1), (26, .iload_n 2, 1), (27, .invokevirtual 222, 3), (30, .istore_n 3, 1), (31, .iload_n 3, 1), (32, .ifCond .ge 8, 3), (35, .bipush (-2), 2)] : List (Nat × Instr × Nat)), decode cX10_far e.1 = .ok e.2 := wn_all _ 18 (by decide +kernel)
theorem dX10_far_18 : decode cX10_far 18 = .ok (.aload_n 0, 1) := wn_at gdX10_far_18 0 rfl
theorem dX10_far_19 : decode cX10_far 19 = .ok (.getfield 19, 3) := wn_at gdX10_far_18 1 rfl
theorem dX10_far_22 : decode cX10_far 22 = .ok (.getfield 102, 3) := wn_at gdX10_far_18 2 rfl
theorem dX10_far_25 : decode cX10_far 25 = .ok (.iload_n 1, 1) := wn_at gdX10_far_18 3 rfl
theorem dX10_far_26 : decode cX10_far 26 = .ok (.iload_n 2, 1) := wn_at gdX10_far_18 4 rfl
theorem dX10_far_27 : decode cX10_far 27 = .ok (.invokevirtual 222, 3) := wn_at gdX10_far_18 5 rfl
theorem dX10_far_30 : decode cX10_far 30 = .ok (.istore_n 3, 1) := wn_at gdX10_far_18 6 rfl
theorem dX10_far_31 : decode cX10_far 31 = .ok (.iload_n 3, 1) := wn_at gdX10_far_18 7 rfl
theorem dX10_far_32 : decode cX10_far 32 = .ok (.ifCond .ge 8, 3) := wn_at gdX10_far_18 8 rfl
theorem dX10_far_35 : decode cX10_far 35 = .ok (.bipush (-2), 2) := wn_at gdX10_far_18 9 rfl
theorem gdX10_far_37 : ∀ e ∈ ([(37, .goto 4, 3), (40, .iload_n 3, 1), (41, .ireturn, 1)] : List (Nat × Instr × Nat)), decode cX10_far e.1 = .ok e.2 := wn_all _ 37 (by decide +kernel)
theorem dX10_far_37 : decode cX10_far 37 = .ok (.goto 4, 3) := wn_at gdX10_far_37 0 rfl
theorem dX10_far_40 : decode cX10_far 40 = .ok (.iload_n 3, 1) := wn_at gdX10_far_37 1 rfl
theorem dX10_far_41 : decode cX10_far 41 = .ok (.ireturn, 1) := wn_at gdX10_far_37 2 rfl
theorem gdX10_next_0 : ∀ e ∈ ([(0, .aload_n 0, 1), (1, .iload_n 1, 1), (2, .invokevirtual 133, 3), (5, .ifCond .eq 11, 3), (8, .aload_n 0, 1), (9, .iload_n 2, 1), (10, .invokevirtual 133, 3), (13, .ifCond .ne 5, 3), (16, .iconst (-1), 1), (17, .ireturn, 1)] : List (Nat × Instr × Nat)), decode cX10_next e.1 = .ok e.2 := wn_all _ 0 (by decide +kernel)
theorem dX10_next_0 : decode cX10_next 0 = .ok (.aload_n 0, 1) := wn_at gdX10_next_0 0 rfl
theorem dX10_next_1 : decode cX10_next 1 = .ok (.iload_n 1, 1) := wn_at gdX10_next_0 1 rfl
theorem dX10_next_2 : decode cX10_next 2 = .ok (.invokevirtual 133, 3) := wn_at gdX10_next_0 2 rfl
theorem dX10_next_5 : decode cX10_next 5 = .ok (.ifCond .eq 11, 3) := wn_at gdX10_next_0 3 rfl
theorem dX10_next_8 : decode cX10_next 8 = .ok (.aload_n 0, 1) := wn_at gdX10_next_0 4 rfl
theorem dX10_next_9 : decode cX10_next 9 = .ok (.iload_n 2, 1) := wn_at gdX10_next_0 5 rfl
theorem dX10_next_10 : decode cX10_next 10 = .ok (.invokevirtual 133, 3) := wn_at gdX10_next_0 6 rfl
theorem dX10_next_13 : decode cX10_next 13 = .ok (.ifCond .ne 5, 3) := wn_at gdX10_next_0 7 rfl
theorem dX10_next_16 : decode cX10_next 16 = .ok (.iconst (-1), 1) := wn_at gdX10_next_0 8 rfl
theorem dX10_next_17 : decode cX10_next 17 = .ok (.ireturn, 1) := wn_at gdX10_next_0 9 rfl
theorem gdX10_next_18 : ∀ e ∈ ([(18, .aload_n 0, 1), (19, .getfield 19, 3), (22, .getfield 102, 3), (25, .iload_n 1, 1), (26, .iload_n 2, 1), (27, .invokevirtual 226, 3), (30, .istore_n 3, 1), (31, .iload_n 3, 1), (32, .ifCond .ge 8, 3), (35, .bipush (-2), 2)] : List (Nat × Instr × Nat)), decode cX10_next e.1 = .ok e.2 := wn_all _ 18 (by decide +kernel)
theorem dX10_next_18 : decode cX10_next 18 = .ok (.aload_n 0, 1) := wn_at gdX10_next_18 0 rfl
theorem dX10_next_19 : decode cX10_next 19 = .ok (.getfield 19, 3) := wn_at gdX10_next_18 1 rfl
theorem dX10_next_22 : decode cX10_next 22 = .ok (.getfield 102, 3) := wn_at gdX10_next_18 2 rfl
theorem dX10_next_25 : decode cX10_next 25 = .ok (.iload_n 1, 1) := wn_at gdX10_next_18 3 rfl
theorem dX10_next_26 : decode cX10_next 26 = .ok (.iload_n 2, 1) := wn_at gdX10_next_18 4 rfl
theorem dX10_next_27 : decode cX10_next 27 = .ok (.invokevirtual 226, 3) := wn_at gdX10_next_18 5 rfl
theorem dX10_next_30 : decode cX10_next 30 = .ok (.istore_n 3, 1) := wn_at gdX10_next_18 6 rfl
theorem dX10_next_31 : decode cX10_next 31 = .ok (.iload_n 3, 1) := wn_at gdX10_next_18 7 rfl
theorem dX10_next_32 : decode cX10_next 32 = .ok (.ifCond .ge 8, 3) := wn_at gdX10_next_18 8 rfl
theorem dX10_next_35 : decode cX10_next 35 = .ok (.bipush (-2), 2) := wn_at gdX10_next_18 9 rfl
theorem gdX10_next_37 : ∀ e ∈ ([(37, .goto 4, 3), (40, .iload_n 3, 1), (41, .ireturn, 1)] : List (Nat × Instr × Nat)), decode cX10_next e.1 = .ok e.2 := wn_all _ 37 (by decide +kernel)
theorem dX10_next_37 : decode cX10_next 37 = .ok (.goto 4, 3) := wn_at gdX10_next_37 0 rfl
theorem dX10_next_40 : decode cX10_next 40 = .ok (.iload_n 3, 1) := wn_at gdX10_next_37 1 rfl
theorem dX10_next_41 : decode cX10_next 41 = .ok (.ireturn, 1) := wn_at gdX10_next_37 2 rfl
theorem gdX10_clock_0 : ∀ e ∈ ([(0, .aload_n 0, 1), (1, .iload_n 1, 1), (2, .invokevirtual 133, 3), (5, .ifCond .eq 17, 3), (8, .iload_n 2, 1), (9, .invokestatic 229, 3), (12, .ifCond .eq 10, 3), (15, .iload_n 3, 1), (16, .invokestatic 182, 3), (19, .ifCond .ne 7, 3)] : List (Nat × Instr × Nat)), decode cX10_clock e.1 = .ok e.2 := wn_all _ 0 (by decide +kernel)
theorem dX10_clock_0 : decode cX10_clock 0 = .ok (.aload_n 0, 1) := wn_at gdX10_clock_0 0 rfl
theorem dX10_clock_1 : decode cX10_clock 1 = .ok (.iload_n 1, 1) := wn_at gdX10_clock_0 1 rfl
theorem dX10_clock_2 : decode cX10_clock 2 = .ok (.invokevirtual 133, 3) := wn_at gdX10_clock_0 2 rfl
theorem dX10_clock_5 : decode cX10_clock 5 = .ok (.ifCond .eq 17, 3) := wn_at gdX10_clock_0 3 rfl
theorem dX10_clock_8 : decode cX10_clock 8 = .ok (.iload_n 2, 1) := wn_at gdX10_clock_0 4 rfl
theorem dX10_clock_9 : decode cX10_clock 9 = .ok (.invokestatic 229, 3) := wn_at gdX10_clock_0 5 rfl
theorem dX10_clock_12 : decode cX10_clock 12 = .ok (.ifCond .eq 10, 3) := wn_at gdX10_clock_0 6 rfl
theorem dX10_clock_15 : decode cX10_clock 15 = .ok (.iload_n 3, 1) := wn_at gdX10_clock_0 7 rfl
theorem dX10_clock_16 : decode cX10_clock 16 = .ok (.invokestatic 182, 3) := wn_at gdX10_clock_0 8 rfl
theorem dX10_clock_19 : decode cX10_clock 19 = .ok (.ifCond .ne 7, 3) := wn_at gdX10_clock_0 9 rfl
theorem gdX10_clock_22 : ∀ e ∈ ([(22, .ldc2_w 185, 3), (25, .lreturn, 1), (26, .aload_n 0, 1), (27, .getfield 19, 3), (30, .getfield 102, 3), (33, .iload_n 1, 1), (34, .iload_n 2, 1), (35, .invokevirtual 232, 3), (38, .ldc2_w 145, 3), (41, .iload_n 3, 1)] : List (Nat × Instr × Nat)), decode cX10_clock e.1 = .ok e.2 := wn_all _ 22 (by decide +kernel)
theorem dX10_clock_22 : decode cX10_clock 22 = .ok (.ldc2_w 185, 3) := wn_at gdX10_clock_22 0 rfl
theorem dX10_clock_25 : decode cX10_clock 25 = .ok (.lreturn, 1) := wn_at gdX10_clock_22 1 rfl
theorem dX10_clock_26 : decode cX10_clock 26 = .ok (.aload_n 0, 1) := wn_at gdX10_clock_22 2 rfl
theorem dX10_clock_27 : decode cX10_clock 27 = .ok (.getfield 19, 3) := wn_at gdX10_clock_22 3 rfl
theorem dX10_clock_30 : decode cX10_clock 30 = .ok (.getfield 102, 3) := wn_at gdX10_clock_22 4 rfl
theorem dX10_clock_33 : decode cX10_clock 33 = .ok (.iload_n 1, 1) := wn_at gdX10_clock_22 5 rfl
theorem dX10_clock_34 : decode cX10_clock 34 = .ok (.iload_n 2, 1) := wn_at gdX10_clock_22 6 rfl
theorem dX10_clock_35 : decode cX10_clock 35 = .ok (.invokevirtual 232, 3) := wn_at gdX10_clock_22 7 rfl
theorem dX10_clock_38 : decode cX10_clock 38 = .ok (.ldc2_w 145, 3) := wn_at gdX10_clock_22 8 rfl
theorem dX10_clock_41 : decode cX10_clock 41 = .ok (.iload_n 3, 1) := wn_at gdX10_clock_22 9 rfl
theorem gdX10_clock_42 : ∀ e ∈ ([(42, .invokestatic 147, 3), (45, .lreturn, 1)] : List (Nat × Instr × Nat)), decode cX10_clock e.1 = .ok e.2 := wn_all _ 42 (by decide +kernel)
theorem dX10_clock_42 : decode cX10_clock 42 = .ok (.invokestatic 147, 3) := wn_at gdX10_clock_42 0 rfl
theorem dX10_clock_45 : decode cX10_clock 45 = .ok (.lreturn, 1) := wn_at gdX10_clock_42 1 rfl
theorem gdX10_noons_0 : ∀ e ∈ ([(0, .aload_n 0, 1), (1, .iload_n 1, 1), (2, .invokevirtual 133, 3), (5, .ifCond .eq 18, 3), (8, .aload_n 0, 1), (9, .iload_n 2, 1), (10, .invokevirtual 133, 3), (13, .ifCond .eq 10, 3), (16, .iload_n 3, 1), (17, .invokestatic 182, 3)] : List (Nat × Instr × Nat)), decode cX10_noons e.1 = .ok e.2 := wn_all _ 0 (by decide +kernel)
theorem dX10_noons_0 : decode cX10_noons 0 = .ok (.aload_n 0, 1) := wn_at gdX10_noons_0 0 rfl
theorem dX10_noons_1 : decode cX10_noons 1 = .ok (.iload_n 1, 1) := wn_at gdX10_noons_0 1 rfl
theorem dX10_noons_2 : decode cX10_noons 2 = .ok (.invokevirtual 133, 3) := wn_at gdX10_noons_0 2 rfl
theorem dX10_noons_5 : decode cX10_noons 5 = .ok (.ifCond .eq 18, 3) := wn_at gdX10_noons_0 3 rfl
theorem dX10_noons_8 : decode cX10_noons 8 = .ok (.aload_n 0, 1) := wn_at gdX10_noons_0 4 rfl
theorem dX10_noons_9 : decode cX10_noons 9 = .ok (.iload_n 2, 1) := wn_at gdX10_noons_0 5 rfl
theorem dX10_noons_10 : decode cX10_noons 10 = .ok (.invokevirtual 133, 3) := wn_at gdX10_noons_0 6 rfl
theorem dX10_noons_13 : decode cX10_noons 13 = .ok (.ifCond .eq 10, 3) := wn_at gdX10_noons_0 7 rfl
theorem dX10_noons_16 : decode cX10_noons 16 = .ok (.iload_n 3, 1) := wn_at gdX10_noons_0 8 rfl
theorem dX10_noons_17 : decode cX10_noons 17 = .ok (.invokestatic 182, 3) := wn_at gdX10_noons_0 9 rfl
theorem gdX10_noons_20 : ∀ e ∈ ([(20, .ifCond .ne 7, 3), (23, .ldc2_w 185, 3), (26, .lreturn, 1), (27, .aload_n 0, 1), (28, .getfield 19, 3), (31, .getfield 102, 3), (34, .getfield 141, 3), (37, .iload_n 1, 1), (38, .laload, 1), (39, .lstore 4, 2)] : List (Nat × Instr × Nat)), decode cX10_noons e.1 = .ok e.2 := wn_all _ 20 (by decide +kernel)
theorem dX10_noons_20 : decode cX10_noons 20 = .ok (.ifCond .ne 7, 3) := wn_at gdX10_noons_20 0 rfl
theorem dX10_noons_23 : decode cX10_noons 23 = .ok (.ldc2_w 185, 3) := wn_at gdX10_noons_20 1 rfl
theorem dX10_noons_26 : decode cX10_noons 26 = .ok (.lreturn, 1) := wn_at gdX10_noons_20 2 rfl
theorem dX10_noons_27 : decode cX10_noons 27 = .ok (.aload_n 0, 1) := wn_at gdX10_noons_20 3 rfl
theorem dX10_noons_28 : decode cX10_noons 28 = .ok (.getfield 19, 3) := wn_at gdX10_noons_20 4 rfl
theorem dX10_noons_31 : decode cX10_noons 31 = .ok (.getfield 102, 3) := wn_at gdX10_noons_20 5 rfl
theorem dX10_noons_34 : decode cX10_noons 34 = .ok (.getfield 141, 3) := wn_at gdX10_noons_20 6 rfl
theorem dX10_noons_37 : decode cX10_noons 37 = .ok (.iload_n 1, 1) := wn_at gdX10_noons_20 7 rfl
theorem dX10_noons_38 : decode cX10_noons 38 = .ok (.laload, 1) := wn_at gdX10_noons_20 8 rfl
theorem dX10_noons_39 : decode cX10_noons 39 = .ok (.lstore 4, 2) := wn_at gdX10_noons_20 9 rfl
theorem gdX10_noons_41 : ∀ e ∈ ([(41, .aload_n 0, 1), (42, .getfield 19, 3), (45, .getfield 102, 3), (48, .getfield 141, 3), (51, .iload_n 2, 1), (52, .laload, 1), (53, .lstore 6, 2), (55, .lload 4, 2), (57, .lload 6, 2), (59, .invokestatic 236, 3)] : List (Nat × Instr × Nat)), decode cX10_noons e.1 = .ok e.2 := wn_all _ 41 (by decide +kernel)
theorem dX10_noons_41 : decode cX10_noons 41 = .ok (.aload_n 0, 1) := wn_at gdX10_noons_41 0 rfl
theorem dX10_noons_42 : decode cX10_noons 42 = .ok (.getfield 19, 3) := wn_at gdX10_noons_41 1 rfl
theorem dX10_noons_45 : decode cX10_noons 45 = .ok (.getfield 102, 3) := wn_at gdX10_noons_41 2 rfl
theorem dX10_noons_48 : decode cX10_noons 48 = .ok (.getfield 141, 3) := wn_at gdX10_noons_41 3 rfl
theorem dX10_noons_51 : decode cX10_noons 51 = .ok (.iload_n 2, 1) := wn_at gdX10_noons_41 4 rfl
theorem dX10_noons_52 : decode cX10_noons 52 = .ok (.laload, 1) := wn_at gdX10_noons_41 5 rfl
theorem dX10_noons_53 : decode cX10_noons 53 = .ok (.lstore 6, 2) := wn_at gdX10_noons_41 6 rfl
theorem dX10_noons_55 : decode cX10_noons 55 = .ok (.lload 4, 2) := wn_at gdX10_noons_41 7 rfl
theorem dX10_noons_57 : decode cX10_noons 57 = .ok (.lload 6, 2) := wn_at gdX10_noons_41 8 rfl
theorem dX10_noons_59 : decode cX10_noons 59 = .ok (.invokestatic 236, 3) := wn_at gdX10_noons_41 9 rfl
theorem gdX10_noons_62 : ∀ e ∈ ([(62, .lstore 8, 2), (64, .lload 8, 2), (66, .lconst 0, 1), (67, .lcmp, 1), (68, .ifCond .eq 31, 3), (71, .lload 4, 2), (73, .lload 8, 2), (75, .ldiv, 1), (76, .ldc2_w 240, 3), (79, .lrem, 1)] : List (Nat × Instr × Nat)), decode cX10_noons e.1 = .ok e.2 := wn_all _ 62 (by decide +kernel)
theorem dX10_noons_62 : decode cX10_noons 62 = .ok (.lstore 8, 2) := wn_at gdX10_noons_62 0 rfl
theorem dX10_noons_64 : decode cX10_noons 64 = .ok (.lload 8, 2) := wn_at gdX10_noons_62 1 rfl
theorem dX10_noons_66 : decode cX10_noons 66 = .ok (.lconst 0, 1) := wn_at gdX10_noons_62 2 rfl
theorem dX10_noons_67 : decode cX10_noons 67 = .ok (.lcmp, 1) := wn_at gdX10_noons_62 3 rfl
theorem dX10_noons_68 : decode cX10_noons 68 = .ok (.ifCond .eq 31, 3) := wn_at gdX10_noons_62 4 rfl
theorem dX10_noons_71 : decode cX10_noons 71 = .ok (.lload 4, 2) := wn_at gdX10_noons_62 5 rfl
theorem dX10_noons_73 : decode cX10_noons 73 = .ok (.lload 8, 2) := wn_at gdX10_noons_62 6 rfl
theorem dX10_noons_75 : decode cX10_noons 75 = .ok (.ldiv, 1) := wn_at gdX10_noons_62 7 rfl
theorem dX10_noons_76 : decode cX10_noons 76 = .ok (.ldc2_w 240, 3) := wn_at gdX10_noons_62 8 rfl
theorem dX10_noons_79 : decode cX10_noons 79 = .ok (.lrem, 1) := wn_at gdX10_noons_62 9 rfl
theorem gdX10_noons_80 : ∀ e ∈ ([(80, .lconst 0, 1), (81, .lcmp, 1), (82, .ifCond .eq 17, 3), (85, .lload 6, 2), (87, .lload 8, 2), (89, .ldiv, 1), (90, .ldc2_w 240, 3), (93, .lrem, 1), (94, .lconst 0, 1), (95, .lcmp, 1)] : List (Nat × Instr × Nat)), decode cX10_noons e.1 = .ok e.2 := wn_all _ 80 (by decide +kernel)
theorem dX10_noons_80 : decode cX10_noons 80 = .ok (.lconst 0, 1) := wn_at gdX10_noons_80 0 rfl
theorem dX10_noons_81 : decode cX10_noons 81 = .ok (.lcmp, 1) := wn_at gdX10_noons_80 1 rfl
theorem dX10_noons_82 : decode cX10_noons 82 = .ok (.ifCond .eq 17, 3) := wn_at gdX10_noons_80 2 rfl
theorem dX10_noons_85 : decode cX10_noons 85 = .ok (.lload 6, 2) := wn_at gdX10_noons_80 3 rfl
theorem dX10_noons_87 : decode cX10_noons 87 = .ok (.lload 8, 2) := wn_at gdX10_noons_80 4 rfl
theorem dX10_noons_89 : decode cX10_noons 89 = .ok (.ldiv, 1) := wn_at gdX10_noons_80 5 rfl
theorem dX10_noons_90 : decode cX10_noons 90 = .ok (.ldc2_w 240, 3) := wn_at gdX10_noons_80 6 rfl
theorem dX10_noons_93 : decode cX10_noons 93 = .ok (.lrem, 1) := wn_at gdX10_noons_80 7 rfl
theorem dX10_noons_94 : decode cX10_noons 94 = .ok (.lconst 0, 1) := wn_at gdX10_noons_80 8 rfl
theorem dX10_noons_95 : decode cX10_noons 95 = .ok (.lcmp, 1) := wn_at gdX10_noons_80 9 rfl
theorem gdX10_noons_96 : ∀ e ∈ ([(96, .ifCond .ne 7, 3), (99, .ldc2_w 216, 3), (102, .lreturn, 1), (103, .ldc2_w 242, 3), (106, .lload 8, 2), (108, .iload_n 3, 1), (109, .invokestatic 147, 3), (112, .lreturn, 1)] : List (Nat × Instr × Nat)), decode cX10_noons e.1 = .ok e.2 := wn_all _ 96 (by decide +kernel)
theorem dX10_noons_96 : decode cX10_noons 96 = .ok (.ifCond .ne 7, 3) := wn_at gdX10_noons_96 0 rfl
theorem dX10_noons_99 : decode cX10_noons 99 = .ok (.ldc2_w 216, 3) := wn_at gdX10_noons_96 1 rfl
theorem dX10_noons_102 : decode cX10_noons 102 = .ok (.lreturn, 1) := wn_at gdX10_noons_96 2 rfl
theorem dX10_noons_103 : decode cX10_noons 103 = .ok (.ldc2_w 242, 3) := wn_at gdX10_noons_96 3 rfl
theorem dX10_noons_106 : decode cX10_noons 106 = .ok (.lload 8, 2) := wn_at gdX10_noons_96 4 rfl
theorem dX10_noons_108 : decode cX10_noons 108 = .ok (.iload_n 3, 1) := wn_at gdX10_noons_96 5 rfl
theorem dX10_noons_109 : decode cX10_noons 109 = .ok (.invokestatic 147, 3) := wn_at gdX10_noons_96 6 rfl
theorem dX10_noons_112 : decode cX10_noons 112 = .ok (.lreturn, 1) := wn_at gdX10_noons_96 7 rfl
theorem gdX10_plan_0 : ∀ e ∈ ([(0, .aload_n 0, 1), (1, .iload_n 1, 1), (2, .invokevirtual 190, 3), (5, .ifCond .eq 11, 3), (8, .aload_n 0, 1), (9, .iload_n 2, 1), (10, .invokevirtual 133, 3), (13, .ifCond .ne 7, 3), (16, .ldc2_w 185, 3), (19, .lreturn, 1)] : List (Nat × Instr × Nat)), decode cX10_plan e.1 = .ok e.2 := wn_all _ 0 (by decide +kernel)
theorem dX10_plan_0 : decode cX10_plan 0 = .ok (.aload_n 0, 1) := wn_at gdX10_plan_0 0 rfl
theorem dX10_plan_1 : decode cX10_plan 1 = .ok (.iload_n 1, 1) := wn_at gdX10_plan_0 1 rfl
theorem dX10_plan_2 : decode cX10_plan 2 = .ok (.invokevirtual 190, 3) := wn_at gdX10_plan_0 2 rfl
theorem dX10_plan_5 : decode cX10_plan 5 = .ok (.ifCond .eq 11, 3) := wn_at gdX10_plan_0 3 rfl
theorem dX10_plan_8 : decode cX10_plan 8 = .ok (.aload_n 0, 1) := wn_at gdX10_plan_0 4 rfl
theorem dX10_plan_9 : decode cX10_plan 9 = .ok (.iload_n 2, 1) := wn_at gdX10_plan_0 5 rfl
theorem dX10_plan_10 : decode cX10_plan 10 = .ok (.invokevirtual 133, 3) := wn_at gdX10_plan_0 6 rfl
theorem dX10_plan_13 : decode cX10_plan 13 = .ok (.ifCond .ne 7, 3) := wn_at gdX10_plan_0 7 rfl
theorem dX10_plan_16 : decode cX10_plan 16 = .ok (.ldc2_w 185, 3) := wn_at gdX10_plan_0 8 rfl
theorem dX10_plan_19 : decode cX10_plan 19 = .ok (.lreturn, 1) := wn_at gdX10_plan_0 9 rfl
theorem gdX10_plan_20 : ∀ e ∈ ([(20, .iload_n 3, 1), (21, .iconst 0, 1), (22, .bipush 120, 2), (24, .invokestatic 91, 3), (27, .ifCond .eq 13, 3), (30, .iload 5, 2), (32, .iconst 0, 1), (33, .iconst 2, 1), (34, .invokestatic 91, 3), (37, .ifCond .ne 7, 3)] : List (Nat × Instr × Nat)), decode cX10_plan e.1 = .ok e.2 := wn_all _ 20 (by decide +kernel)
theorem dX10_plan_20 : decode cX10_plan 20 = .ok (.iload_n 3, 1) := wn_at gdX10_plan_20 0 rfl
theorem dX10_plan_21 : decode cX10_plan 21 = .ok (.iconst 0, 1) := wn_at gdX10_plan_20 1 rfl
theorem dX10_plan_22 : decode cX10_plan 22 = .ok (.bipush 120, 2) := wn_at gdX10_plan_20 2 rfl
theorem dX10_plan_24 : decode cX10_plan 24 = .ok (.invokestatic 91, 3) := wn_at gdX10_plan_20 3 rfl
theorem dX10_plan_27 : decode cX10_plan 27 = .ok (.ifCond .eq 13, 3) := wn_at gdX10_plan_20 4 rfl
theorem dX10_plan_30 : decode cX10_plan 30 = .ok (.iload 5, 2) := wn_at gdX10_plan_20 5 rfl
theorem dX10_plan_32 : decode cX10_plan 32 = .ok (.iconst 0, 1) := wn_at gdX10_plan_20 6 rfl
theorem dX10_plan_33 : decode cX10_plan 33 = .ok (.iconst 2, 1) := wn_at gdX10_plan_20 7 rfl
theorem dX10_plan_34 : decode cX10_plan 34 = .ok (.invokestatic 91, 3) := wn_at gdX10_plan_20 8 rfl
theorem dX10_plan_37 : decode cX10_plan 37 = .ok (.ifCond .ne 7, 3) := wn_at gdX10_plan_20 9 rfl
theorem gdX10_plan_40 : ∀ e ∈ ([(40, .ldc2_w 185, 3), (43, .lreturn, 1), (44, .aload_n 0, 1), (45, .getfield 19, 3), (48, .getfield 109, 3), (51, .getfield 170, 3), (54, .iload_n 1, 1), (55, .iaload, 1), (56, .istore 6, 2), (58, .aload_n 0, 1)] : List (Nat × Instr × Nat)), decode cX10_plan e.1 = .ok e.2 := wn_all _ 40 (by decide +kernel)
theorem dX10_plan_40 : decode cX10_plan 40 = .ok (.ldc2_w 185, 3) := wn_at gdX10_plan_40 0 rfl
theorem dX10_plan_43 : decode cX10_plan 43 = .ok (.lreturn, 1) := wn_at gdX10_plan_40 1 rfl
theorem dX10_plan_44 : decode cX10_plan 44 = .ok (.aload_n 0, 1) := wn_at gdX10_plan_40 2 rfl
theorem dX10_plan_45 : decode cX10_plan 45 = .ok (.getfield 19, 3) := wn_at gdX10_plan_40 3 rfl
theorem dX10_plan_48 : decode cX10_plan 48 = .ok (.getfield 109, 3) := wn_at gdX10_plan_40 4 rfl
theorem dX10_plan_51 : decode cX10_plan 51 = .ok (.getfield 170, 3) := wn_at gdX10_plan_40 5 rfl
theorem dX10_plan_54 : decode cX10_plan 54 = .ok (.iload_n 1, 1) := wn_at gdX10_plan_40 6 rfl
theorem dX10_plan_55 : decode cX10_plan 55 = .ok (.iaload, 1) := wn_at gdX10_plan_40 7 rfl
theorem dX10_plan_56 : decode cX10_plan 56 = .ok (.istore 6, 2) := wn_at gdX10_plan_40 8 rfl
theorem dX10_plan_58 : decode cX10_plan 58 = .ok (.aload_n 0, 1) := wn_at gdX10_plan_40 9 rfl
theorem gdX10_plan_59 : ∀ e ∈ ([(59, .getfield 68, 3), (62, .aload_n 0, 1), (63, .getfield 19, 3), (66, .getfield 102, 3), (69, .iload_n 2, 1), (70, .iload_n 3, 1), (71, .iload 4, 2), (73, .invokevirtual 244, 3), (76, .aload_n 0, 1), (77, .getfield 68, 3)] : List (Nat × Instr × Nat)), decode cX10_plan e.1 = .ok e.2 := wn_all _ 59 (by decide +kernel)
theorem dX10_plan_59 : decode cX10_plan 59 = .ok (.getfield 68, 3) := wn_at gdX10_plan_59 0 rfl
theorem dX10_plan_62 : decode cX10_plan 62 = .ok (.aload_n 0, 1) := wn_at gdX10_plan_59 1 rfl
theorem dX10_plan_63 : decode cX10_plan 63 = .ok (.getfield 19, 3) := wn_at gdX10_plan_59 2 rfl
theorem dX10_plan_66 : decode cX10_plan 66 = .ok (.getfield 102, 3) := wn_at gdX10_plan_59 3 rfl
theorem dX10_plan_69 : decode cX10_plan 69 = .ok (.iload_n 2, 1) := wn_at gdX10_plan_59 4 rfl
theorem dX10_plan_70 : decode cX10_plan 70 = .ok (.iload_n 3, 1) := wn_at gdX10_plan_59 5 rfl
theorem dX10_plan_71 : decode cX10_plan 71 = .ok (.iload 4, 2) := wn_at gdX10_plan_59 6 rfl
theorem dX10_plan_73 : decode cX10_plan 73 = .ok (.invokevirtual 244, 3) := wn_at gdX10_plan_59 7 rfl
theorem dX10_plan_76 : decode cX10_plan 76 = .ok (.aload_n 0, 1) := wn_at gdX10_plan_59 8 rfl
theorem dX10_plan_77 : decode cX10_plan 77 = .ok (.getfield 68, 3) := wn_at gdX10_plan_59 9 rfl
theorem gdX10_plan_80 : ∀ e ∈ ([(80, .iload_n 3, 1), (81, .iload 6, 2), (83, .invokevirtual 248, 3), (86, .lstore 7, 2), (88, .lload 7, 2), (90, .lconst 0, 1), (91, .lcmp, 1), (92, .ifCond .ge 7, 3), (95, .ldc2_w 216, 3), (98, .lreturn, 1)] : List (Nat × Instr × Nat)), decode cX10_plan e.1 = .ok e.2 := wn_all _ 80 (by decide +kernel)
theorem dX10_plan_80 : decode cX10_plan 80 = .ok (.iload_n 3, 1) := wn_at gdX10_plan_80 0 rfl
theorem dX10_plan_81 : decode cX10_plan 81 = .ok (.iload 6, 2) := wn_at gdX10_plan_80 1 rfl
theorem dX10_plan_83 : decode cX10_plan 83 = .ok (.invokevirtual 248, 3) := wn_at gdX10_plan_80 2 rfl
theorem dX10_plan_86 : decode cX10_plan 86 = .ok (.lstore 7, 2) := wn_at gdX10_plan_80 3 rfl
theorem dX10_plan_88 : decode cX10_plan 88 = .ok (.lload 7, 2) := wn_at gdX10_plan_80 4 rfl
theorem dX10_plan_90 : decode cX10_plan 90 = .ok (.lconst 0, 1) := wn_at gdX10_plan_80 5 rfl
theorem dX10_plan_91 : decode cX10_plan 91 = .ok (.lcmp, 1) := wn_at gdX10_plan_80 6 rfl
theorem dX10_plan_92 : decode cX10_plan 92 = .ok (.ifCond .ge 7, 3) := wn_at gdX10_plan_80 7 rfl
theorem dX10_plan_95 : decode cX10_plan 95 = .ok (.ldc2_w 216, 3) := wn_at gdX10_plan_80 8 rfl
theorem dX10_plan_98 : decode cX10_plan 98 = .ok (.lreturn, 1) := wn_at gdX10_plan_80 9 rfl
theorem gdX10_plan_99 : ∀ e ∈ ([(99, .iload 5, 2), (101, .iconst 2, 1), (102, .if_icmp .ne 22, 3), (105, .aload_n 0, 1), (106, .getfield 68, 3), (109, .aload_n 0, 1), (110, .getfield 19, 3), (113, .getfield 102, 3), (116, .iload_n 3, 1), (117, .iload 6, 2)] : List (Nat × Instr × Nat)), decode cX10_plan e.1 = .ok e.2 := wn_all _ 99 (by decide +kernel)
theorem dX10_plan_99 : decode cX10_plan 99 = .ok (.iload 5, 2) := wn_at gdX10_plan_99 0 rfl
theorem dX10_plan_101 : decode cX10_plan 101 = .ok (.iconst 2, 1) := wn_at gdX10_plan_99 1 rfl
theorem dX10_plan_102 : decode cX10_plan 102 = .ok (.if_icmp .ne 22, 3) := wn_at gdX10_plan_99 2 rfl
theorem dX10_plan_105 : decode cX10_plan 105 = .ok (.aload_n 0, 1) := wn_at gdX10_plan_99 3 rfl
theorem dX10_plan_106 : decode cX10_plan 106 = .ok (.getfield 68, 3) := wn_at gdX10_plan_99 4 rfl
theorem dX10_plan_109 : decode cX10_plan 109 = .ok (.aload_n 0, 1) := wn_at gdX10_plan_99 5 rfl
theorem dX10_plan_110 : decode cX10_plan 110 = .ok (.getfield 19, 3) := wn_at gdX10_plan_99 6 rfl
theorem dX10_plan_113 : decode cX10_plan 113 = .ok (.getfield 102, 3) := wn_at gdX10_plan_99 7 rfl
theorem dX10_plan_116 : decode cX10_plan 116 = .ok (.iload_n 3, 1) := wn_at gdX10_plan_99 8 rfl
theorem dX10_plan_117 : decode cX10_plan 117 = .ok (.iload 6, 2) := wn_at gdX10_plan_99 9 rfl
theorem gdX10_plan_119 : ∀ e ∈ ([(119, .invokevirtual 251, 3), (122, .i2l, 1), (123, .lreturn, 1), (124, .aload_n 0, 1), (125, .getfield 19, 3), (128, .getfield 109, 3), (131, .getfield 187, 3), (134, .iload_n 1, 1), (135, .laload, 1), (136, .lload 7, 2)] : List (Nat × Instr × Nat)), decode cX10_plan e.1 = .ok e.2 := wn_all _ 119 (by decide +kernel)
theorem dX10_plan_119 : decode cX10_plan 119 = .ok (.invokevirtual 251, 3) := wn_at gdX10_plan_119 0 rfl
theorem dX10_plan_122 : decode cX10_plan 122 = .ok (.i2l, 1) := wn_at gdX10_plan_119 1 rfl
theorem dX10_plan_123 : decode cX10_plan 123 = .ok (.lreturn, 1) := wn_at gdX10_plan_119 2 rfl
theorem dX10_plan_124 : decode cX10_plan 124 = .ok (.aload_n 0, 1) := wn_at gdX10_plan_119 3 rfl
theorem dX10_plan_125 : decode cX10_plan 125 = .ok (.getfield 19, 3) := wn_at gdX10_plan_119 4 rfl
theorem dX10_plan_128 : decode cX10_plan 128 = .ok (.getfield 109, 3) := wn_at gdX10_plan_119 5 rfl
theorem dX10_plan_131 : decode cX10_plan 131 = .ok (.getfield 187, 3) := wn_at gdX10_plan_119 6 rfl
theorem dX10_plan_134 : decode cX10_plan 134 = .ok (.iload_n 1, 1) := wn_at gdX10_plan_119 7 rfl
theorem dX10_plan_135 : decode cX10_plan 135 = .ok (.laload, 1) := wn_at gdX10_plan_119 8 rfl
theorem dX10_plan_136 : decode cX10_plan 136 = .ok (.lload 7, 2) := wn_at gdX10_plan_119 9 rfl
theorem gdX10_plan_138 : ∀ e ∈ ([(138, .ladd, 1), (139, .ldc2_w 145, 3), (142, .iload 5, 2), (144, .invokestatic 147, 3), (147, .lreturn, 1)] : List (Nat × Instr × Nat)), decode cX10_plan e.1 = .ok e.2 := wn_all _ 138 (by decide +kernel)
theorem dX10_plan_138 : decode cX10_plan 138 = .ok (.ladd, 1) := wn_at gdX10_plan_138 0 rfl
theorem dX10_plan_139 : decode cX10_plan 139 = .ok (.ldc2_w 145, 3) := wn_at gdX10_plan_138 1 rfl
theorem dX10_plan_142 : decode cX10_plan 142 = .ok (.iload 5, 2) := wn_at gdX10_plan_138 2 rfl
theorem dX10_plan_144 : decode cX10_plan 144 = .ok (.invokestatic 147, 3) := wn_at gdX10_plan_138 3 rfl
theorem dX10_plan_147 : decode cX10_plan 147 = .ok (.lreturn, 1) := wn_at gdX10_plan_138 4 rfl
theorem gdX10_even_0 : ∀ e ∈ ([(0, .aload_n 0, 1), (1, .iload_n 1, 1), (2, .invokevirtual 167, 3), (5, .ifCond .eq 16, 3), (8, .aload_n 0, 1), (9, .iload_n 2, 1), (10, .invokevirtual 167, 3), (13, .ifCond .eq 8, 3), (16, .iload_n 1, 1), (17, .iload_n 2, 1)] : List (Nat × Instr × Nat)), decode cX10_even e.1 = .ok e.2 := wn_all _ 0 (by decide +kernel)
theorem dX10_even_0 : decode cX10_even 0 = .ok (.aload_n 0, 1) := wn_at gdX10_even_0 0 rfl
theorem dX10_even_1 : decode cX10_even 1 = .ok (.iload_n 1, 1) := wn_at gdX10_even_0 1 rfl
theorem dX10_even_2 : decode cX10_even 2 = .ok (.invokevirtual 167, 3) := wn_at gdX10_even_0 2 rfl
theorem dX10_even_5 : decode cX10_even 5 = .ok (.ifCond .eq 16, 3) := wn_at gdX10_even_0 3 rfl
theorem dX10_even_8 : decode cX10_even 8 = .ok (.aload_n 0, 1) := wn_at gdX10_even_0 4 rfl
theorem dX10_even_9 : decode cX10_even 9 = .ok (.iload_n 2, 1) := wn_at gdX10_even_0 5 rfl
theorem dX10_even_10 : decode cX10_even 10 = .ok (.invokevirtual 167, 3) := wn_at gdX10_even_0 6 rfl
theorem dX10_even_13 : decode cX10_even 13 = .ok (.ifCond .eq 8, 3) := wn_at gdX10_even_0 7 rfl
theorem dX10_even_16 : decode cX10_even 16 = .ok (.iload_n 1, 1) := wn_at gdX10_even_0 8 rfl
theorem dX10_even_17 : decode cX10_even 17 = .ok (.iload_n 2, 1) := wn_at gdX10_even_0 9 rfl
theorem gdX10_even_18 : ∀ e ∈ ([(18, .if_icmp .ne 7, 3), (21, .ldc2_w 185, 3), (24, .lreturn, 1), (25, .aload_n 0, 1), (26, .iload_n 3, 1), (27, .invokevirtual 133, 3), (30, .ifCond .eq 20, 3), (33, .aload_n 0, 1), (34, .iload 4, 2), (36, .invokevirtual 133, 3)] : List (Nat × Instr × Nat)), decode cX10_even e.1 = .ok e.2 := wn_all _ 18 (by decide +kernel)
theorem dX10_even_18 : decode cX10_even 18 = .ok (.if_icmp .ne 7, 3) := wn_at gdX10_even_18 0 rfl
theorem dX10_even_21 : decode cX10_even 21 = .ok (.ldc2_w 185, 3) := wn_at gdX10_even_18 1 rfl
theorem dX10_even_24 : decode cX10_even 24 = .ok (.lreturn, 1) := wn_at gdX10_even_18 2 rfl
theorem dX10_even_25 : decode cX10_even 25 = .ok (.aload_n 0, 1) := wn_at gdX10_even_18 3 rfl
theorem dX10_even_26 : decode cX10_even 26 = .ok (.iload_n 3, 1) := wn_at gdX10_even_18 4 rfl
theorem dX10_even_27 : decode cX10_even 27 = .ok (.invokevirtual 133, 3) := wn_at gdX10_even_18 5 rfl
theorem dX10_even_30 : decode cX10_even 30 = .ok (.ifCond .eq 20, 3) := wn_at gdX10_even_18 6 rfl
theorem dX10_even_33 : decode cX10_even 33 = .ok (.aload_n 0, 1) := wn_at gdX10_even_18 7 rfl
theorem dX10_even_34 : decode cX10_even 34 = .ok (.iload 4, 2) := wn_at gdX10_even_18 8 rfl
theorem dX10_even_36 : decode cX10_even 36 = .ok (.invokevirtual 133, 3) := wn_at gdX10_even_18 9 rfl
theorem gdX10_even_39 : ∀ e ∈ ([(39, .ifCond .eq 11, 3), (42, .iload 5, 2), (44, .invokestatic 182, 3), (47, .ifCond .ne 7, 3), (50, .ldc2_w 185, 3), (53, .lreturn, 1), (54, .aload_n 0, 1), (55, .getfield 19, 3), (58, .getfield 109, 3), (61, .getfield 187, 3)] : List (Nat × Instr × Nat)), decode cX10_even e.1 = .ok e.2 := wn_all _ 39 (by decide +kernel)
theorem dX10_even_39 : decode cX10_even 39 = .ok (.ifCond .eq 11, 3) := wn_at gdX10_even_39 0 rfl
theorem dX10_even_42 : decode cX10_even 42 = .ok (.iload 5, 2) := wn_at gdX10_even_39 1 rfl
theorem dX10_even_44 : decode cX10_even 44 = .ok (.invokestatic 182, 3) := wn_at gdX10_even_39 2 rfl
theorem dX10_even_47 : decode cX10_even 47 = .ok (.ifCond .ne 7, 3) := wn_at gdX10_even_39 3 rfl
theorem dX10_even_50 : decode cX10_even 50 = .ok (.ldc2_w 185, 3) := wn_at gdX10_even_39 4 rfl
theorem dX10_even_53 : decode cX10_even 53 = .ok (.lreturn, 1) := wn_at gdX10_even_39 5 rfl
theorem dX10_even_54 : decode cX10_even 54 = .ok (.aload_n 0, 1) := wn_at gdX10_even_39 6 rfl
theorem dX10_even_55 : decode cX10_even 55 = .ok (.getfield 19, 3) := wn_at gdX10_even_39 7 rfl
theorem dX10_even_58 : decode cX10_even 58 = .ok (.getfield 109, 3) := wn_at gdX10_even_39 8 rfl
theorem dX10_even_61 : decode cX10_even 61 = .ok (.getfield 187, 3) := wn_at gdX10_even_39 9 rfl
theorem gdX10_even_64 : ∀ e ∈ ([(64, .iload_n 2, 1), (65, .laload, 1), (66, .aload_n 0, 1), (67, .getfield 19, 3), (70, .getfield 109, 3), (73, .getfield 187, 3), (76, .iload_n 1, 1), (77, .laload, 1), (78, .lsub, 1), (79, .lstore 6, 2)] : List (Nat × Instr × Nat)), decode cX10_even e.1 = .ok e.2 := wn_all _ 64 (by decide +kernel)
theorem dX10_even_64 : decode cX10_even 64 = .ok (.iload_n 2, 1) := wn_at gdX10_even_64 0 rfl
theorem dX10_even_65 : decode cX10_even 65 = .ok (.laload, 1) := wn_at gdX10_even_64 1 rfl
theorem dX10_even_66 : decode cX10_even 66 = .ok (.aload_n 0, 1) := wn_at gdX10_even_64 2 rfl
theorem dX10_even_67 : decode cX10_even 67 = .ok (.getfield 19, 3) := wn_at gdX10_even_64 3 rfl
theorem dX10_even_70 : decode cX10_even 70 = .ok (.getfield 109, 3) := wn_at gdX10_even_64 4 rfl
theorem dX10_even_73 : decode cX10_even 73 = .ok (.getfield 187, 3) := wn_at gdX10_even_64 5 rfl
theorem dX10_even_76 : decode cX10_even 76 = .ok (.iload_n 1, 1) := wn_at gdX10_even_64 6 rfl
theorem dX10_even_77 : decode cX10_even 77 = .ok (.laload, 1) := wn_at gdX10_even_64 7 rfl
theorem dX10_even_78 : decode cX10_even 78 = .ok (.lsub, 1) := wn_at gdX10_even_64 8 rfl
theorem dX10_even_79 : decode cX10_even 79 = .ok (.lstore 6, 2) := wn_at gdX10_even_64 9 rfl
theorem gdX10_even_81 : ∀ e ∈ ([(81, .aload_n 0, 1), (82, .getfield 19, 3), (85, .getfield 102, 3), (88, .getfield 141, 3), (91, .iload_n 3, 1), (92, .laload, 1), (93, .aload_n 0, 1), (94, .getfield 19, 3), (97, .getfield 102, 3), (100, .getfield 141, 3)] : List (Nat × Instr × Nat)), decode cX10_even e.1 = .ok e.2 := wn_all _ 81 (by decide +kernel)
theorem dX10_even_81 : decode cX10_even 81 = .ok (.aload_n 0, 1) := wn_at gdX10_even_81 0 rfl
theorem dX10_even_82 : decode cX10_even 82 = .ok (.getfield 19, 3) := wn_at gdX10_even_81 1 rfl
theorem dX10_even_85 : decode cX10_even 85 = .ok (.getfield 102, 3) := wn_at gdX10_even_81 2 rfl
theorem dX10_even_88 : decode cX10_even 88 = .ok (.getfield 141, 3) := wn_at gdX10_even_81 3 rfl
theorem dX10_even_91 : decode cX10_even 91 = .ok (.iload_n 3, 1) := wn_at gdX10_even_81 4 rfl
theorem dX10_even_92 : decode cX10_even 92 = .ok (.laload, 1) := wn_at gdX10_even_81 5 rfl
theorem dX10_even_93 : decode cX10_even 93 = .ok (.aload_n 0, 1) := wn_at gdX10_even_81 6 rfl
theorem dX10_even_94 : decode cX10_even 94 = .ok (.getfield 19, 3) := wn_at gdX10_even_81 7 rfl
theorem dX10_even_97 : decode cX10_even 97 = .ok (.getfield 102, 3) := wn_at gdX10_even_81 8 rfl
theorem dX10_even_100 : decode cX10_even 100 = .ok (.getfield 141, 3) := wn_at gdX10_even_81 9 rfl
theorem gdX10_even_103 : ∀ e ∈ ([(103, .iload 4, 2), (105, .laload, 1), (106, .lsub, 1), (107, .lstore 8, 2), (109, .lload 6, 2), (111, .lconst 0, 1), (112, .lcmp, 1), (113, .ifCond .ne 11, 3), (116, .lconst 0, 1), (117, .lconst 1, 1)] : List (Nat × Instr × Nat)), decode cX10_even e.1 = .ok e.2 := wn_all _ 103 (by decide +kernel)
theorem dX10_even_103 : decode cX10_even 103 = .ok (.iload 4, 2) := wn_at gdX10_even_103 0 rfl
theorem dX10_even_105 : decode cX10_even 105 = .ok (.laload, 1) := wn_at gdX10_even_103 1 rfl
theorem dX10_even_106 : decode cX10_even 106 = .ok (.lsub, 1) := wn_at gdX10_even_103 2 rfl
theorem dX10_even_107 : decode cX10_even 107 = .ok (.lstore 8, 2) := wn_at gdX10_even_103 3 rfl
theorem dX10_even_109 : decode cX10_even 109 = .ok (.lload 6, 2) := wn_at gdX10_even_103 4 rfl
theorem dX10_even_111 : decode cX10_even 111 = .ok (.lconst 0, 1) := wn_at gdX10_even_103 5 rfl
theorem dX10_even_112 : decode cX10_even 112 = .ok (.lcmp, 1) := wn_at gdX10_even_103 6 rfl
theorem dX10_even_113 : decode cX10_even 113 = .ok (.ifCond .ne 11, 3) := wn_at gdX10_even_103 7 rfl
theorem dX10_even_116 : decode cX10_even 116 = .ok (.lconst 0, 1) := wn_at gdX10_even_103 8 rfl
theorem dX10_even_117 : decode cX10_even 117 = .ok (.lconst 1, 1) := wn_at gdX10_even_103 9 rfl
theorem gdX10_even_118 : ∀ e ∈ ([(118, .iload 5, 2), (120, .invokestatic 147, 3), (123, .lreturn, 1), (124, .lload 8, 2), (126, .lconst 0, 1), (127, .lcmp, 1), (128, .ifCond .eq 30, 3), (131, .lload 6, 2), (133, .lconst 0, 1), (134, .lcmp, 1)] : List (Nat × Instr × Nat)), decode cX10_even e.1 = .ok e.2 := wn_all _ 118 (by decide +kernel)
theorem dX10_even_118 : decode cX10_even 118 = .ok (.iload 5, 2) := wn_at gdX10_even_118 0 rfl
theorem dX10_even_120 : decode cX10_even 120 = .ok (.invokestatic 147, 3) := wn_at gdX10_even_118 1 rfl
theorem dX10_even_123 : decode cX10_even 123 = .ok (.lreturn, 1) := wn_at gdX10_even_118 2 rfl
theorem dX10_even_124 : decode cX10_even 124 = .ok (.lload 8, 2) := wn_at gdX10_even_118 3 rfl
theorem dX10_even_126 : decode cX10_even 126 = .ok (.lconst 0, 1) := wn_at gdX10_even_118 4 rfl
theorem dX10_even_127 : decode cX10_even 127 = .ok (.lcmp, 1) := wn_at gdX10_even_118 5 rfl
theorem dX10_even_128 : decode cX10_even 128 = .ok (.ifCond .eq 30, 3) := wn_at gdX10_even_118 6 rfl
theorem dX10_even_131 : decode cX10_even 131 = .ok (.lload 6, 2) := wn_at gdX10_even_118 7 rfl
theorem dX10_even_133 : decode cX10_even 133 = .ok (.lconst 0, 1) := wn_at gdX10_even_118 8 rfl
theorem dX10_even_134 : decode cX10_even 134 = .ok (.lcmp, 1) := wn_at gdX10_even_118 9 rfl
theorem gdX10_even_135 : ∀ e ∈ ([(135, .ifCond .ge 7, 3), (138, .iconst 1, 1), (139, .goto 4, 3), (142, .iconst 0, 1), (143, .lload 8, 2), (145, .lconst 0, 1), (146, .lcmp, 1), (147, .ifCond .ge 7, 3), (150, .iconst 1, 1), (151, .goto 4, 3)] : List (Nat × Instr × Nat)), decode cX10_even e.1 = .ok e.2 := wn_all _ 135 (by decide +kernel)
theorem dX10_even_135 : decode cX10_even 135 = .ok (.ifCond .ge 7, 3) := wn_at gdX10_even_135 0 rfl
theorem dX10_even_138 : decode cX10_even 138 = .ok (.iconst 1, 1) := wn_at gdX10_even_135 1 rfl
theorem dX10_even_139 : decode cX10_even 139 = .ok (.goto 4, 3) := wn_at gdX10_even_135 2 rfl
theorem dX10_even_142 : decode cX10_even 142 = .ok (.iconst 0, 1) := wn_at gdX10_even_135 3 rfl
theorem dX10_even_143 : decode cX10_even 143 = .ok (.lload 8, 2) := wn_at gdX10_even_135 4 rfl
theorem dX10_even_145 : decode cX10_even 145 = .ok (.lconst 0, 1) := wn_at gdX10_even_135 5 rfl
theorem dX10_even_146 : decode cX10_even 146 = .ok (.lcmp, 1) := wn_at gdX10_even_135 6 rfl
theorem dX10_even_147 : decode cX10_even 147 = .ok (.ifCond .ge 7, 3) := wn_at gdX10_even_135 7 rfl
theorem dX10_even_150 : decode cX10_even 150 = .ok (.iconst 1, 1) := wn_at gdX10_even_135 8 rfl
theorem dX10_even_151 : decode cX10_even 151 = .ok (.goto 4, 3) := wn_at gdX10_even_135 9 rfl
theorem gdX10_even_154 : ∀ e ∈ ([(154, .iconst 0, 1), (155, .if_icmp .eq 7, 3), (158, .ldc2_w 216, 3), (161, .lreturn, 1), (162, .lload 6, 2), (164, .invokestatic 255, 3), (167, .lload 8, 2), (169, .invokestatic 255, 3), (172, .iload 5, 2), (174, .invokestatic 147, 3)] : List (Nat × Instr × Nat)), decode cX10_even e.1 = .ok e.2 := wn_all _ 154 (by decide +kernel)
theorem dX10_even_154 : decode cX10_even 154 = .ok (.iconst 0, 1) := wn_at gdX10_even_154 0 rfl
theorem dX10_even_155 : decode cX10_even 155 = .ok (.if_icmp .eq 7, 3) := wn_at gdX10_even_154 1 rfl
theorem dX10_even_158 : decode cX10_even 158 = .ok (.ldc2_w 216, 3) := wn_at gdX10_even_154 2 rfl
theorem dX10_even_161 : decode cX10_even 161 = .ok (.lreturn, 1) := wn_at gdX10_even_154 3 rfl
theorem dX10_even_162 : decode cX10_even 162 = .ok (.lload 6, 2) := wn_at gdX10_even_154 4 rfl
theorem dX10_even_164 : decode cX10_even 164 = .ok (.invokestatic 255, 3) := wn_at gdX10_even_154 5 rfl
theorem dX10_even_167 : decode cX10_even 167 = .ok (.lload 8, 2) := wn_at gdX10_even_154 6 rfl
theorem dX10_even_169 : decode cX10_even 169 = .ok (.invokestatic 255, 3) := wn_at gdX10_even_154 7 rfl
theorem dX10_even_172 : decode cX10_even 172 = .ok (.iload 5, 2) := wn_at gdX10_even_154 8 rfl
theorem dX10_even_174 : decode cX10_even 174 = .ok (.invokestatic 147, 3) := wn_at gdX10_even_154 9 rfl
theorem gdX10_even_177 : ∀ e ∈ ([(177, .lreturn, 1)] : List (Nat × Instr × Nat)), decode cX10_even e.1 = .ok e.2 := wn_all _ 177 (by decide +kernel)
theorem dX10_even_177 : decode cX10_even 177 = .ok (.lreturn, 1) := wn_at gdX10_even_177 0 rfl
theorem gdX10_ripe_0 : ∀ e ∈ ([(0, .aload_n 0, 1), (1, .iload_n 1, 1), (2, .invokevirtual 133, 3), (5, .ifCond .eq 21, 3), (8, .aload_n 0, 1), (9, .iload_n 2, 1), (10, .invokevirtual 133, 3), (13, .ifCond .eq 13, 3), (16, .iload_n 3, 1), (17, .iconst 0, 1)] : List (Nat × Instr × Nat)), decode cX10_ripe e.1 = .ok e.2 := wn_all _ 0 (by decide +kernel)
theorem dX10_ripe_0 : decode cX10_ripe 0 = .ok (.aload_n 0, 1) := wn_at gdX10_ripe_0 0 rfl
theorem dX10_ripe_1 : decode cX10_ripe 1 = .ok (.iload_n 1, 1) := wn_at gdX10_ripe_0 1 rfl
theorem dX10_ripe_2 : decode cX10_ripe 2 = .ok (.invokevirtual 133, 3) := wn_at gdX10_ripe_0 2 rfl
theorem dX10_ripe_5 : decode cX10_ripe 5 = .ok (.ifCond .eq 21, 3) := wn_at gdX10_ripe_0 3 rfl
theorem dX10_ripe_8 : decode cX10_ripe 8 = .ok (.aload_n 0, 1) := wn_at gdX10_ripe_0 4 rfl
theorem dX10_ripe_9 : decode cX10_ripe 9 = .ok (.iload_n 2, 1) := wn_at gdX10_ripe_0 5 rfl
theorem dX10_ripe_10 : decode cX10_ripe 10 = .ok (.invokevirtual 133, 3) := wn_at gdX10_ripe_0 6 rfl
theorem dX10_ripe_13 : decode cX10_ripe 13 = .ok (.ifCond .eq 13, 3) := wn_at gdX10_ripe_0 7 rfl
theorem dX10_ripe_16 : decode cX10_ripe 16 = .ok (.iload_n 3, 1) := wn_at gdX10_ripe_0 8 rfl
theorem dX10_ripe_17 : decode cX10_ripe 17 = .ok (.iconst 0, 1) := wn_at gdX10_ripe_0 9 rfl
theorem gdX10_ripe_18 : ∀ e ∈ ([(18, .bipush 16, 2), (20, .invokestatic 91, 3), (23, .ifCond .ne 5, 3), (26, .iconst (-1), 1), (27, .ireturn, 1), (28, .iload 4, 2), (30, .iconst 0, 1), (31, .sipush 999, 3), (34, .invokestatic 91, 3), (37, .ifCond .eq 16, 3)] : List (Nat × Instr × Nat)), decode cX10_ripe e.1 = .ok e.2 := wn_all _ 18 (by decide +kernel)
theorem dX10_ripe_18 : decode cX10_ripe 18 = .ok (.bipush 16, 2) := wn_at gdX10_ripe_18 0 rfl
theorem dX10_ripe_20 : decode cX10_ripe 20 = .ok (.invokestatic 91, 3) := wn_at gdX10_ripe_18 1 rfl
theorem dX10_ripe_23 : decode cX10_ripe 23 = .ok (.ifCond .ne 5, 3) := wn_at gdX10_ripe_18 2 rfl
theorem dX10_ripe_26 : decode cX10_ripe 26 = .ok (.iconst (-1), 1) := wn_at gdX10_ripe_18 3 rfl
theorem dX10_ripe_27 : decode cX10_ripe 27 = .ok (.ireturn, 1) := wn_at gdX10_ripe_18 4 rfl
theorem dX10_ripe_28 : decode cX10_ripe 28 = .ok (.iload 4, 2) := wn_at gdX10_ripe_18 5 rfl
theorem dX10_ripe_30 : decode cX10_ripe 30 = .ok (.iconst 0, 1) := wn_at gdX10_ripe_18 6 rfl
theorem dX10_ripe_31 : decode cX10_ripe 31 = .ok (.sipush 999, 3) := wn_at gdX10_ripe_18 7 rfl
theorem dX10_ripe_34 : decode cX10_ripe 34 = .ok (.invokestatic 91, 3) := wn_at gdX10_ripe_18 8 rfl
theorem dX10_ripe_37 : decode cX10_ripe 37 = .ok (.ifCond .eq 16, 3) := wn_at gdX10_ripe_18 9 rfl
theorem gdX10_ripe_40 : ∀ e ∈ ([(40, .iload 5, 2), (42, .iload 4, 2), (44, .sipush 999, 3), (47, .invokestatic 91, 3), (50, .ifCond .ne 5, 3), (53, .iconst (-1), 1), (54, .ireturn, 1), (55, .aload_n 0, 1), (56, .getfield 75, 3), (59, .aload_n 0, 1)] : List (Nat × Instr × Nat)), decode cX10_ripe e.1 = .ok e.2 := wn_all _ 40 (by decide +kernel)
theorem dX10_ripe_40 : decode cX10_ripe 40 = .ok (.iload 5, 2) := wn_at gdX10_ripe_40 0 rfl
theorem dX10_ripe_42 : decode cX10_ripe 42 = .ok (.iload 4, 2) := wn_at gdX10_ripe_40 1 rfl
theorem dX10_ripe_44 : decode cX10_ripe 44 = .ok (.sipush 999, 3) := wn_at gdX10_ripe_40 2 rfl
theorem dX10_ripe_47 : decode cX10_ripe 47 = .ok (.invokestatic 91, 3) := wn_at gdX10_ripe_40 3 rfl
theorem dX10_ripe_50 : decode cX10_ripe 50 = .ok (.ifCond .ne 5, 3) := wn_at gdX10_ripe_40 4 rfl
theorem dX10_ripe_53 : decode cX10_ripe 53 = .ok (.iconst (-1), 1) := wn_at gdX10_ripe_40 5 rfl
theorem dX10_ripe_54 : decode cX10_ripe 54 = .ok (.ireturn, 1) := wn_at gdX10_ripe_40 6 rfl
theorem dX10_ripe_55 : decode cX10_ripe 55 = .ok (.aload_n 0, 1) := wn_at gdX10_ripe_40 7 rfl
theorem dX10_ripe_56 : decode cX10_ripe 56 = .ok (.getfield 75, 3) := wn_at gdX10_ripe_40 8 rfl
theorem dX10_ripe_59 : decode cX10_ripe 59 = .ok (.aload_n 0, 1) := wn_at gdX10_ripe_40 9 rfl
theorem gdX10_ripe_60 : ∀ e ∈ ([(60, .getfield 19, 3), (63, .getfield 102, 3), (66, .iload_n 1, 1), (67, .iload_n 3, 1), (68, .invokevirtual 261, 3), (71, .ifCond .ne 6, 3), (74, .bipush (-3), 2), (76, .ireturn, 1), (77, .aload_n 0, 1), (78, .getfield 75, 3)] : List (Nat × Instr × Nat)), decode cX10_ripe e.1 = .ok e.2 := wn_all _ 60 (by decide +kernel)
theorem dX10_ripe_60 : decode cX10_ripe 60 = .ok (.getfield 19, 3) := wn_at gdX10_ripe_60 0 rfl
theorem dX10_ripe_63 : decode cX10_ripe 63 = .ok (.getfield 102, 3) := wn_at gdX10_ripe_60 1 rfl
theorem dX10_ripe_66 : decode cX10_ripe 66 = .ok (.iload_n 1, 1) := wn_at gdX10_ripe_60 2 rfl
theorem dX10_ripe_67 : decode cX10_ripe 67 = .ok (.iload_n 3, 1) := wn_at gdX10_ripe_60 3 rfl
theorem dX10_ripe_68 : decode cX10_ripe 68 = .ok (.invokevirtual 261, 3) := wn_at gdX10_ripe_60 4 rfl
theorem dX10_ripe_71 : decode cX10_ripe 71 = .ok (.ifCond .ne 6, 3) := wn_at gdX10_ripe_60 5 rfl
theorem dX10_ripe_74 : decode cX10_ripe 74 = .ok (.bipush (-3), 2) := wn_at gdX10_ripe_60 6 rfl
theorem dX10_ripe_76 : decode cX10_ripe 76 = .ok (.ireturn, 1) := wn_at gdX10_ripe_60 7 rfl
theorem dX10_ripe_77 : decode cX10_ripe 77 = .ok (.aload_n 0, 1) := wn_at gdX10_ripe_60 8 rfl
theorem dX10_ripe_78 : decode cX10_ripe 78 = .ok (.getfield 75, 3) := wn_at gdX10_ripe_60 9 rfl
theorem gdX10_ripe_81 : ∀ e ∈ ([(81, .aload_n 0, 1), (82, .getfield 19, 3), (85, .getfield 102, 3), (88, .iload_n 2, 1), (89, .iload_n 3, 1), (90, .iload 4, 2), (92, .i2l, 1), (93, .ldc2_w 145, 3), (96, .lmul, 1), (97, .iload 5, 2)] : List (Nat × Instr × Nat)), decode cX10_ripe e.1 = .ok e.2 := wn_all _ 81 (by decide +kernel)
theorem dX10_ripe_81 : decode cX10_ripe 81 = .ok (.aload_n 0, 1) := wn_at gdX10_ripe_81 0 rfl
theorem dX10_ripe_82 : decode cX10_ripe 82 = .ok (.getfield 19, 3) := wn_at gdX10_ripe_81 1 rfl
theorem dX10_ripe_85 : decode cX10_ripe 85 = .ok (.getfield 102, 3) := wn_at gdX10_ripe_81 2 rfl
theorem dX10_ripe_88 : decode cX10_ripe 88 = .ok (.iload_n 2, 1) := wn_at gdX10_ripe_81 3 rfl
theorem dX10_ripe_89 : decode cX10_ripe 89 = .ok (.iload_n 3, 1) := wn_at gdX10_ripe_81 4 rfl
theorem dX10_ripe_90 : decode cX10_ripe 90 = .ok (.iload 4, 2) := wn_at gdX10_ripe_81 5 rfl
theorem dX10_ripe_92 : decode cX10_ripe 92 = .ok (.i2l, 1) := wn_at gdX10_ripe_81 6 rfl
theorem dX10_ripe_93 : decode cX10_ripe 93 = .ok (.ldc2_w 145, 3) := wn_at gdX10_ripe_81 7 rfl
theorem dX10_ripe_96 : decode cX10_ripe 96 = .ok (.lmul, 1) := wn_at gdX10_ripe_81 8 rfl
theorem dX10_ripe_97 : decode cX10_ripe 97 = .ok (.iload 5, 2) := wn_at gdX10_ripe_81 9 rfl
theorem gdX10_ripe_99 : ∀ e ∈ ([(99, .i2l, 1), (100, .ldc2_w 145, 3), (103, .lmul, 1), (104, .invokevirtual 264, 3), (107, .ireturn, 1)] : List (Nat × Instr × Nat)), decode cX10_ripe e.1 = .ok e.2 := wn_all _ 99 (by decide +kernel)
theorem dX10_ripe_99 : decode cX10_ripe 99 = .ok (.i2l, 1) := wn_at gdX10_ripe_99 0 rfl
theorem dX10_ripe_100 : decode cX10_ripe 100 = .ok (.ldc2_w 145, 3) := wn_at gdX10_ripe_99 1 rfl
theorem dX10_ripe_103 : decode cX10_ripe 103 = .ok (.lmul, 1) := wn_at gdX10_ripe_99 2 rfl
theorem dX10_ripe_104 : decode cX10_ripe 104 = .ok (.invokevirtual 264, 3) := wn_at gdX10_ripe_99 3 rfl
theorem dX10_ripe_107 : decode cX10_ripe 107 = .ok (.ireturn, 1) := wn_at gdX10_ripe_99 4 rfl
theorem gdX10_owed_0 : ∀ e ∈ ([(0, .aload_n 0, 1), (1, .iload_n 1, 1), (2, .invokevirtual 133, 3), (5, .ifCond .eq 25, 3), (8, .iload_n 2, 1), (9, .iconst 1, 1), (10, .sipush 9999, 3), (13, .invokestatic 91, 3), (16, .ifCond .eq 14, 3), (19, .iload_n 3, 1)] : List (Nat × Instr × Nat)), decode cX10_owed e.1 = .ok e.2 := wn_all _ 0 (by decide +kernel)
theorem dX10_owed_0 : decode cX10_owed 0 = .ok (.aload_n 0, 1) := wn_at gdX10_owed_0 0 rfl
theorem dX10_owed_1 : decode cX10_owed 1 = .ok (.iload_n 1, 1) := wn_at gdX10_owed_0 1 rfl
theorem dX10_owed_2 : decode cX10_owed 2 = .ok (.invokevirtual 133, 3) := wn_at gdX10_owed_0 2 rfl
theorem dX10_owed_5 : decode cX10_owed 5 = .ok (.ifCond .eq 25, 3) := wn_at gdX10_owed_0 3 rfl
theorem dX10_owed_8 : decode cX10_owed 8 = .ok (.iload_n 2, 1) := wn_at gdX10_owed_0 4 rfl
theorem dX10_owed_9 : decode cX10_owed 9 = .ok (.iconst 1, 1) := wn_at gdX10_owed_0 5 rfl
theorem dX10_owed_10 : decode cX10_owed 10 = .ok (.sipush 9999, 3) := wn_at gdX10_owed_0 6 rfl
theorem dX10_owed_13 : decode cX10_owed 13 = .ok (.invokestatic 91, 3) := wn_at gdX10_owed_0 7 rfl
theorem dX10_owed_16 : decode cX10_owed 16 = .ok (.ifCond .eq 14, 3) := wn_at gdX10_owed_0 8 rfl
theorem dX10_owed_19 : decode cX10_owed 19 = .ok (.iload_n 3, 1) := wn_at gdX10_owed_0 9 rfl
theorem gdX10_owed_20 : ∀ e ∈ ([(20, .iconst 0, 1), (21, .sipush 999, 3), (24, .invokestatic 91, 3), (27, .ifCond .ne 7, 3), (30, .ldc2_w 185, 3), (33, .lreturn, 1), (34, .iload 4, 2), (36, .invokestatic 229, 3), (39, .ifCond .eq 11, 3), (42, .iload 5, 2)] : List (Nat × Instr × Nat)), decode cX10_owed e.1 = .ok e.2 := wn_all _ 20 (by decide +kernel)
theorem dX10_owed_20 : decode cX10_owed 20 = .ok (.iconst 0, 1) := wn_at gdX10_owed_20 0 rfl
theorem dX10_owed_21 : decode cX10_owed 21 = .ok (.sipush 999, 3) := wn_at gdX10_owed_20 1 rfl
theorem dX10_owed_24 : decode cX10_owed 24 = .ok (.invokestatic 91, 3) := wn_at gdX10_owed_20 2 rfl
theorem dX10_owed_27 : decode cX10_owed 27 = .ok (.ifCond .ne 7, 3) := wn_at gdX10_owed_20 3 rfl
theorem dX10_owed_30 : decode cX10_owed 30 = .ok (.ldc2_w 185, 3) := wn_at gdX10_owed_20 4 rfl
theorem dX10_owed_33 : decode cX10_owed 33 = .ok (.lreturn, 1) := wn_at gdX10_owed_20 5 rfl
theorem dX10_owed_34 : decode cX10_owed 34 = .ok (.iload 4, 2) := wn_at gdX10_owed_20 6 rfl
theorem dX10_owed_36 : decode cX10_owed 36 = .ok (.invokestatic 229, 3) := wn_at gdX10_owed_20 7 rfl
theorem dX10_owed_39 : decode cX10_owed 39 = .ok (.ifCond .eq 11, 3) := wn_at gdX10_owed_20 8 rfl
theorem dX10_owed_42 : decode cX10_owed 42 = .ok (.iload 5, 2) := wn_at gdX10_owed_20 9 rfl
theorem gdX10_owed_44 : ∀ e ∈ ([(44, .invokestatic 182, 3), (47, .ifCond .ne 7, 3), (50, .ldc2_w 185, 3), (53, .lreturn, 1), (54, .aload_n 0, 1), (55, .getfield 19, 3), (58, .getfield 102, 3), (61, .getfield 141, 3), (64, .iload_n 1, 1), (65, .laload, 1)] : List (Nat × Instr × Nat)), decode cX10_owed e.1 = .ok e.2 := wn_all _ 44 (by decide +kernel)
theorem dX10_owed_44 : decode cX10_owed 44 = .ok (.invokestatic 182, 3) := wn_at gdX10_owed_44 0 rfl
theorem dX10_owed_47 : decode cX10_owed 47 = .ok (.ifCond .ne 7, 3) := wn_at gdX10_owed_44 1 rfl
theorem dX10_owed_50 : decode cX10_owed 50 = .ok (.ldc2_w 185, 3) := wn_at gdX10_owed_44 2 rfl
theorem dX10_owed_53 : decode cX10_owed 53 = .ok (.lreturn, 1) := wn_at gdX10_owed_44 3 rfl
theorem dX10_owed_54 : decode cX10_owed 54 = .ok (.aload_n 0, 1) := wn_at gdX10_owed_44 4 rfl
theorem dX10_owed_55 : decode cX10_owed 55 = .ok (.getfield 19, 3) := wn_at gdX10_owed_44 5 rfl
theorem dX10_owed_58 : decode cX10_owed 58 = .ok (.getfield 102, 3) := wn_at gdX10_owed_44 6 rfl
theorem dX10_owed_61 : decode cX10_owed 61 = .ok (.getfield 141, 3) := wn_at gdX10_owed_44 7 rfl
theorem dX10_owed_64 : decode cX10_owed 64 = .ok (.iload_n 1, 1) := wn_at gdX10_owed_44 8 rfl
theorem dX10_owed_65 : decode cX10_owed 65 = .ok (.laload, 1) := wn_at gdX10_owed_44 9 rfl
theorem gdX10_owed_66 : ∀ e ∈ ([(66, .ldc2_w 145, 3), (69, .iconst 0, 1), (70, .invokestatic 147, 3), (73, .lstore 6, 2), (75, .ldc2_w 268, 3), (78, .aload_n 0, 1), (79, .getfield 19, 3), (82, .getfield 102, 3), (85, .getfield 141, 3), (88, .iload_n 1, 1)] : List (Nat × Instr × Nat)), decode cX10_owed e.1 = .ok e.2 := wn_all _ 66 (by decide +kernel)
theorem dX10_owed_66 : decode cX10_owed 66 = .ok (.ldc2_w 145, 3) := wn_at gdX10_owed_66 0 rfl
theorem dX10_owed_69 : decode cX10_owed 69 = .ok (.iconst 0, 1) := wn_at gdX10_owed_66 1 rfl
theorem dX10_owed_70 : decode cX10_owed 70 = .ok (.invokestatic 147, 3) := wn_at gdX10_owed_66 2 rfl
theorem dX10_owed_73 : decode cX10_owed 73 = .ok (.lstore 6, 2) := wn_at gdX10_owed_66 3 rfl
theorem dX10_owed_75 : decode cX10_owed 75 = .ok (.ldc2_w 268, 3) := wn_at gdX10_owed_66 4 rfl
theorem dX10_owed_78 : decode cX10_owed 78 = .ok (.aload_n 0, 1) := wn_at gdX10_owed_66 5 rfl
theorem dX10_owed_79 : decode cX10_owed 79 = .ok (.getfield 19, 3) := wn_at gdX10_owed_66 6 rfl
theorem dX10_owed_82 : decode cX10_owed 82 = .ok (.getfield 102, 3) := wn_at gdX10_owed_66 7 rfl
theorem dX10_owed_85 : decode cX10_owed 85 = .ok (.getfield 141, 3) := wn_at gdX10_owed_66 8 rfl
theorem dX10_owed_88 : decode cX10_owed 88 = .ok (.iload_n 1, 1) := wn_at gdX10_owed_66 9 rfl
theorem gdX10_owed_89 : ∀ e ∈ ([(89, .laload, 1), (90, .ldc2_w 145, 3), (93, .iconst 1, 1), (94, .invokestatic 147, 3), (97, .lmul, 1), (98, .lstore 8, 2), (100, .iload_n 2, 1), (101, .i2l, 1), (102, .lload 8, 2), (104, .iload_n 3, 1)] : List (Nat × Instr × Nat)), decode cX10_owed e.1 = .ok e.2 := wn_all _ 89 (by decide +kernel)
theorem dX10_owed_89 : decode cX10_owed 89 = .ok (.laload, 1) := wn_at gdX10_owed_89 0 rfl
theorem dX10_owed_90 : decode cX10_owed 90 = .ok (.ldc2_w 145, 3) := wn_at gdX10_owed_89 1 rfl
theorem dX10_owed_93 : decode cX10_owed 93 = .ok (.iconst 1, 1) := wn_at gdX10_owed_89 2 rfl
theorem dX10_owed_94 : decode cX10_owed 94 = .ok (.invokestatic 147, 3) := wn_at gdX10_owed_89 3 rfl
theorem dX10_owed_97 : decode cX10_owed 97 = .ok (.lmul, 1) := wn_at gdX10_owed_89 4 rfl
theorem dX10_owed_98 : decode cX10_owed 98 = .ok (.lstore 8, 2) := wn_at gdX10_owed_89 5 rfl
theorem dX10_owed_100 : decode cX10_owed 100 = .ok (.iload_n 2, 1) := wn_at gdX10_owed_89 6 rfl
theorem dX10_owed_101 : decode cX10_owed 101 = .ok (.i2l, 1) := wn_at gdX10_owed_89 7 rfl
theorem dX10_owed_102 : decode cX10_owed 102 = .ok (.lload 8, 2) := wn_at gdX10_owed_89 8 rfl
theorem dX10_owed_104 : decode cX10_owed 104 = .ok (.iload_n 3, 1) := wn_at gdX10_owed_89 9 rfl
theorem gdX10_owed_105 : ∀ e ∈ ([(105, .i2l, 1), (106, .lload 6, 2), (108, .lmul, 1), (109, .iload 4, 2), (111, .i2l, 1), (112, .lmul, 1), (113, .ladd, 1), (114, .lmul, 1), (115, .lload 8, 2), (117, .iload 5, 2)] : List (Nat × Instr × Nat)), decode cX10_owed e.1 = .ok e.2 := wn_all _ 105 (by decide +kernel)
theorem dX10_owed_105 : decode cX10_owed 105 = .ok (.i2l, 1) := wn_at gdX10_owed_105 0 rfl
theorem dX10_owed_106 : decode cX10_owed 106 = .ok (.lload 6, 2) := wn_at gdX10_owed_105 1 rfl
theorem dX10_owed_108 : decode cX10_owed 108 = .ok (.lmul, 1) := wn_at gdX10_owed_105 2 rfl
theorem dX10_owed_109 : decode cX10_owed 109 = .ok (.iload 4, 2) := wn_at gdX10_owed_105 3 rfl
theorem dX10_owed_111 : decode cX10_owed 111 = .ok (.i2l, 1) := wn_at gdX10_owed_105 4 rfl
theorem dX10_owed_112 : decode cX10_owed 112 = .ok (.lmul, 1) := wn_at gdX10_owed_105 5 rfl
theorem dX10_owed_113 : decode cX10_owed 113 = .ok (.ladd, 1) := wn_at gdX10_owed_105 6 rfl
theorem dX10_owed_114 : decode cX10_owed 114 = .ok (.lmul, 1) := wn_at gdX10_owed_105 7 rfl
theorem dX10_owed_115 : decode cX10_owed 115 = .ok (.lload 8, 2) := wn_at gdX10_owed_105 8 rfl
theorem dX10_owed_117 : decode cX10_owed 117 = .ok (.iload 5, 2) := wn_at gdX10_owed_105 9 rfl
theorem gdX10_owed_119 : ∀ e ∈ ([(119, .invokestatic 147, 3), (122, .lreturn, 1)] : List (Nat × Instr × Nat)), decode cX10_owed e.1 = .ok e.2 := wn_all _ 119 (by decide +kernel)
theorem dX10_owed_119 : decode cX10_owed 119 = .ok (.invokestatic 147, 3) := wn_at gdX10_owed_119 0 rfl
theorem dX10_owed_122 : decode cX10_owed 122 = .ok (.lreturn, 1) := wn_at gdX10_owed_119 1 rfl
theorem gdX10_hands_0 : ∀ e ∈ ([(0, .aload_n 0, 1), (1, .iload_n 1, 1), (2, .invokevirtual 133, 3), (5, .ifCond .eq 34, 3), (8, .aload_n 0, 1), (9, .iload_n 2, 1), (10, .invokevirtual 133, 3), (13, .ifCond .eq 26, 3), (16, .iload_n 3, 1), (17, .iconst 1, 1)] : List (Nat × Instr × Nat)), decode cX10_hands e.1 = .ok e.2 := wn_all _ 0 (by decide +kernel)
theorem dX10_hands_0 : decode cX10_hands 0 = .ok (.aload_n 0, 1) := wn_at gdX10_hands_0 0 rfl
theorem dX10_hands_1 : decode cX10_hands 1 = .ok (.iload_n 1, 1) := wn_at gdX10_hands_0 1 rfl
theorem dX10_hands_2 : decode cX10_hands 2 = .ok (.invokevirtual 133, 3) := wn_at gdX10_hands_0 2 rfl
theorem dX10_hands_5 : decode cX10_hands 5 = .ok (.ifCond .eq 34, 3) := wn_at gdX10_hands_0 3 rfl
theorem dX10_hands_8 : decode cX10_hands 8 = .ok (.aload_n 0, 1) := wn_at gdX10_hands_0 4 rfl
theorem dX10_hands_9 : decode cX10_hands 9 = .ok (.iload_n 2, 1) := wn_at gdX10_hands_0 5 rfl
theorem dX10_hands_10 : decode cX10_hands 10 = .ok (.invokevirtual 133, 3) := wn_at gdX10_hands_0 6 rfl
theorem dX10_hands_13 : decode cX10_hands 13 = .ok (.ifCond .eq 26, 3) := wn_at gdX10_hands_0 7 rfl
theorem dX10_hands_16 : decode cX10_hands 16 = .ok (.iload_n 3, 1) := wn_at gdX10_hands_0 8 rfl
theorem dX10_hands_17 : decode cX10_hands 17 = .ok (.iconst 1, 1) := wn_at gdX10_hands_0 9 rfl
theorem gdX10_hands_18 : ∀ e ∈ ([(18, .sipush 9999, 3), (21, .invokestatic 91, 3), (24, .ifCond .eq 15, 3), (27, .iload 4, 2), (29, .iconst 1, 1), (30, .sipush 9999, 3), (33, .invokestatic 91, 3), (36, .ifCond .ne 5, 3), (39, .iconst (-1), 1), (40, .ireturn, 1)] : List (Nat × Instr × Nat)), decode cX10_hands e.1 = .ok e.2 := wn_all _ 18 (by decide +kernel)
theorem dX10_hands_18 : decode cX10_hands 18 = .ok (.sipush 9999, 3) := wn_at gdX10_hands_18 0 rfl
theorem dX10_hands_21 : decode cX10_hands 21 = .ok (.invokestatic 91, 3) := wn_at gdX10_hands_18 1 rfl
theorem dX10_hands_24 : decode cX10_hands 24 = .ok (.ifCond .eq 15, 3) := wn_at gdX10_hands_18 2 rfl
theorem dX10_hands_27 : decode cX10_hands 27 = .ok (.iload 4, 2) := wn_at gdX10_hands_18 3 rfl
theorem dX10_hands_29 : decode cX10_hands 29 = .ok (.iconst 1, 1) := wn_at gdX10_hands_18 4 rfl
theorem dX10_hands_30 : decode cX10_hands 30 = .ok (.sipush 9999, 3) := wn_at gdX10_hands_18 5 rfl
theorem dX10_hands_33 : decode cX10_hands 33 = .ok (.invokestatic 91, 3) := wn_at gdX10_hands_18 6 rfl
theorem dX10_hands_36 : decode cX10_hands 36 = .ok (.ifCond .ne 5, 3) := wn_at gdX10_hands_18 7 rfl
theorem dX10_hands_39 : decode cX10_hands 39 = .ok (.iconst (-1), 1) := wn_at gdX10_hands_18 8 rfl
theorem dX10_hands_40 : decode cX10_hands 40 = .ok (.ireturn, 1) := wn_at gdX10_hands_18 9 rfl
theorem gdX10_hands_41 : ∀ e ∈ ([(41, .iload_n 3, 1), (42, .i2l, 1), (43, .aload_n 0, 1), (44, .getfield 19, 3), (47, .getfield 102, 3), (50, .getfield 141, 3), (53, .iload_n 2, 1), (54, .laload, 1), (55, .lmul, 1), (56, .iload 4, 2)] : List (Nat × Instr × Nat)), decode cX10_hands e.1 = .ok e.2 := wn_all _ 41 (by decide +kernel)
theorem dX10_hands_41 : decode cX10_hands 41 = .ok (.iload_n 3, 1) := wn_at gdX10_hands_41 0 rfl
theorem dX10_hands_42 : decode cX10_hands 42 = .ok (.i2l, 1) := wn_at gdX10_hands_41 1 rfl
theorem dX10_hands_43 : decode cX10_hands 43 = .ok (.aload_n 0, 1) := wn_at gdX10_hands_41 2 rfl
theorem dX10_hands_44 : decode cX10_hands 44 = .ok (.getfield 19, 3) := wn_at gdX10_hands_41 3 rfl
theorem dX10_hands_47 : decode cX10_hands 47 = .ok (.getfield 102, 3) := wn_at gdX10_hands_41 4 rfl
theorem dX10_hands_50 : decode cX10_hands 50 = .ok (.getfield 141, 3) := wn_at gdX10_hands_41 5 rfl
theorem dX10_hands_53 : decode cX10_hands 53 = .ok (.iload_n 2, 1) := wn_at gdX10_hands_41 6 rfl
theorem dX10_hands_54 : decode cX10_hands 54 = .ok (.laload, 1) := wn_at gdX10_hands_41 7 rfl
theorem dX10_hands_55 : decode cX10_hands 55 = .ok (.lmul, 1) := wn_at gdX10_hands_41 8 rfl
theorem dX10_hands_56 : decode cX10_hands 56 = .ok (.iload 4, 2) := wn_at gdX10_hands_41 9 rfl
theorem gdX10_hands_58 : ∀ e ∈ ([(58, .i2l, 1), (59, .aload_n 0, 1), (60, .getfield 19, 3), (63, .getfield 102, 3), (66, .getfield 141, 3), (69, .iload_n 1, 1), (70, .laload, 1), (71, .lmul, 1), (72, .invokestatic 270, 3), (75, .l2i, 1)] : List (Nat × Instr × Nat)), decode cX10_hands e.1 = .ok e.2 := wn_all _ 58 (by decide +kernel)
theorem dX10_hands_58 : decode cX10_hands 58 = .ok (.i2l, 1) := wn_at gdX10_hands_58 0 rfl
theorem dX10_hands_59 : decode cX10_hands 59 = .ok (.aload_n 0, 1) := wn_at gdX10_hands_58 1 rfl
theorem dX10_hands_60 : decode cX10_hands 60 = .ok (.getfield 19, 3) := wn_at gdX10_hands_58 2 rfl
theorem dX10_hands_63 : decode cX10_hands 63 = .ok (.getfield 102, 3) := wn_at gdX10_hands_58 3 rfl
theorem dX10_hands_66 : decode cX10_hands 66 = .ok (.getfield 141, 3) := wn_at gdX10_hands_58 4 rfl
theorem dX10_hands_69 : decode cX10_hands 69 = .ok (.iload_n 1, 1) := wn_at gdX10_hands_58 5 rfl
theorem dX10_hands_70 : decode cX10_hands 70 = .ok (.laload, 1) := wn_at gdX10_hands_58 6 rfl
theorem dX10_hands_71 : decode cX10_hands 71 = .ok (.lmul, 1) := wn_at gdX10_hands_58 7 rfl
theorem dX10_hands_72 : decode cX10_hands 72 = .ok (.invokestatic 270, 3) := wn_at gdX10_hands_58 8 rfl
theorem dX10_hands_75 : decode cX10_hands 75 = .ok (.l2i, 1) := wn_at gdX10_hands_58 9 rfl
theorem gdX10_hands_76 : ∀ e ∈ ([(76, .ireturn, 1)] : List (Nat × Instr × Nat)), decode cX10_hands e.1 = .ok e.2 := wn_all _ 76 (by decide +kernel)
theorem dX10_hands_76 : decode cX10_hands 76 = .ok (.ireturn, 1) := wn_at gdX10_hands_76 0 rfl
theorem gdX10_waiting_0 : ∀ e ∈ ([(0, .aload_n 0, 1), (1, .iload_n 1, 1), (2, .invokevirtual 190, 3), (5, .ifCond .eq 13, 3), (8, .iload_n 2, 1), (9, .iconst 0, 1), (10, .bipush 120, 2), (12, .invokestatic 91, 3), (15, .ifCond .ne 5, 3), (18, .iconst (-1), 1)] : List (Nat × Instr × Nat)), decode cX10_waiting e.1 = .ok e.2 := wn_all _ 0 (by decide +kernel)
theorem dX10_waiting_0 : decode cX10_waiting 0 = .ok (.aload_n 0, 1) := wn_at gdX10_waiting_0 0 rfl
theorem dX10_waiting_1 : decode cX10_waiting 1 = .ok (.iload_n 1, 1) := wn_at gdX10_waiting_0 1 rfl
theorem dX10_waiting_2 : decode cX10_waiting 2 = .ok (.invokevirtual 190, 3) := wn_at gdX10_waiting_0 2 rfl
theorem dX10_waiting_5 : decode cX10_waiting 5 = .ok (.ifCond .eq 13, 3) := wn_at gdX10_waiting_0 3 rfl
theorem dX10_waiting_8 : decode cX10_waiting 8 = .ok (.iload_n 2, 1) := wn_at gdX10_waiting_0 4 rfl
theorem dX10_waiting_9 : decode cX10_waiting 9 = .ok (.iconst 0, 1) := wn_at gdX10_waiting_0 5 rfl
theorem dX10_waiting_10 : decode cX10_waiting 10 = .ok (.bipush 120, 2) := wn_at gdX10_waiting_0 6 rfl
theorem dX10_waiting_12 : decode cX10_waiting 12 = .ok (.invokestatic 91, 3) := wn_at gdX10_waiting_0 7 rfl
theorem dX10_waiting_15 : decode cX10_waiting 15 = .ok (.ifCond .ne 5, 3) := wn_at gdX10_waiting_0 8 rfl
theorem dX10_waiting_18 : decode cX10_waiting 18 = .ok (.iconst (-1), 1) := wn_at gdX10_waiting_0 9 rfl
theorem gdX10_waiting_19 : ∀ e ∈ ([(19, .ireturn, 1), (20, .aload_n 0, 1), (21, .getfield 68, 3), (24, .aload_n 0, 1), (25, .getfield 19, 3), (28, .getfield 102, 3), (31, .aload_n 0, 1), (32, .getfield 19, 3), (35, .getfield 109, 3), (38, .getfield 170, 3)] : List (Nat × Instr × Nat)), decode cX10_waiting e.1 = .ok e.2 := wn_all _ 19 (by decide +kernel)
theorem dX10_waiting_19 : decode cX10_waiting 19 = .ok (.ireturn, 1) := wn_at gdX10_waiting_19 0 rfl
theorem dX10_waiting_20 : decode cX10_waiting 20 = .ok (.aload_n 0, 1) := wn_at gdX10_waiting_19 1 rfl
theorem dX10_waiting_21 : decode cX10_waiting 21 = .ok (.getfield 68, 3) := wn_at gdX10_waiting_19 2 rfl
theorem dX10_waiting_24 : decode cX10_waiting 24 = .ok (.aload_n 0, 1) := wn_at gdX10_waiting_19 3 rfl
theorem dX10_waiting_25 : decode cX10_waiting 25 = .ok (.getfield 19, 3) := wn_at gdX10_waiting_19 4 rfl
theorem dX10_waiting_28 : decode cX10_waiting 28 = .ok (.getfield 102, 3) := wn_at gdX10_waiting_19 5 rfl
theorem dX10_waiting_31 : decode cX10_waiting 31 = .ok (.aload_n 0, 1) := wn_at gdX10_waiting_19 6 rfl
theorem dX10_waiting_32 : decode cX10_waiting 32 = .ok (.getfield 19, 3) := wn_at gdX10_waiting_19 7 rfl
theorem dX10_waiting_35 : decode cX10_waiting 35 = .ok (.getfield 109, 3) := wn_at gdX10_waiting_19 8 rfl
theorem dX10_waiting_38 : decode cX10_waiting 38 = .ok (.getfield 170, 3) := wn_at gdX10_waiting_19 9 rfl
theorem gdX10_waiting_41 : ∀ e ∈ ([(41, .iload_n 1, 1), (42, .iaload, 1), (43, .iload_n 2, 1), (44, .iload_n 3, 1), (45, .invokevirtual 244, 3), (48, .aload_n 0, 1), (49, .getfield 68, 3), (52, .aload_n 0, 1), (53, .getfield 19, 3), (56, .getfield 102, 3)] : List (Nat × Instr × Nat)), decode cX10_waiting e.1 = .ok e.2 := wn_all _ 41 (by decide +kernel)
theorem dX10_waiting_41 : decode cX10_waiting 41 = .ok (.iload_n 1, 1) := wn_at gdX10_waiting_41 0 rfl
theorem dX10_waiting_42 : decode cX10_waiting 42 = .ok (.iaload, 1) := wn_at gdX10_waiting_41 1 rfl
theorem dX10_waiting_43 : decode cX10_waiting 43 = .ok (.iload_n 2, 1) := wn_at gdX10_waiting_41 2 rfl
theorem dX10_waiting_44 : decode cX10_waiting 44 = .ok (.iload_n 3, 1) := wn_at gdX10_waiting_41 3 rfl
theorem dX10_waiting_45 : decode cX10_waiting 45 = .ok (.invokevirtual 244, 3) := wn_at gdX10_waiting_41 4 rfl
theorem dX10_waiting_48 : decode cX10_waiting 48 = .ok (.aload_n 0, 1) := wn_at gdX10_waiting_41 5 rfl
theorem dX10_waiting_49 : decode cX10_waiting 49 = .ok (.getfield 68, 3) := wn_at gdX10_waiting_41 6 rfl
theorem dX10_waiting_52 : decode cX10_waiting 52 = .ok (.aload_n 0, 1) := wn_at gdX10_waiting_41 7 rfl
theorem dX10_waiting_53 : decode cX10_waiting 53 = .ok (.getfield 19, 3) := wn_at gdX10_waiting_41 8 rfl
theorem dX10_waiting_56 : decode cX10_waiting 56 = .ok (.getfield 102, 3) := wn_at gdX10_waiting_41 9 rfl
theorem gdX10_waiting_59 : ∀ e ∈ ([(59, .iload_n 2, 1), (60, .iload_n 3, 1), (61, .invokevirtual 273, 3), (64, .ireturn, 1)] : List (Nat × Instr × Nat)), decode cX10_waiting e.1 = .ok e.2 := wn_all _ 59 (by decide +kernel)
theorem dX10_waiting_59 : decode cX10_waiting 59 = .ok (.iload_n 2, 1) := wn_at gdX10_waiting_59 0 rfl
theorem dX10_waiting_60 : decode cX10_waiting 60 = .ok (.iload_n 3, 1) := wn_at gdX10_waiting_59 1 rfl
theorem dX10_waiting_61 : decode cX10_waiting 61 = .ok (.invokevirtual 273, 3) := wn_at gdX10_waiting_59 2 rfl
theorem dX10_waiting_64 : decode cX10_waiting 64 = .ok (.ireturn, 1) := wn_at gdX10_waiting_59 3 rfl
theorem gdX10_when_0 : ∀ e ∈ ([(0, .aload_n 0, 1), (1, .iload_n 1, 1), (2, .invokevirtual 167, 3), (5, .ifCond .eq 30, 3), (8, .aload_n 0, 1), (9, .iload_n 2, 1), (10, .invokevirtual 133, 3), (13, .ifCond .eq 22, 3), (16, .iload_n 3, 1), (17, .iconst 0, 1)] : List (Nat × Instr × Nat)), decode cX10_when e.1 = .ok e.2 := wn_all _ 0 (by decide +kernel)
theorem dX10_when_0 : decode cX10_when 0 = .ok (.aload_n 0, 1) := wn_at gdX10_when_0 0 rfl
theorem dX10_when_1 : decode cX10_when 1 = .ok (.iload_n 1, 1) := wn_at gdX10_when_0 1 rfl
theorem dX10_when_2 : decode cX10_when 2 = .ok (.invokevirtual 167, 3) := wn_at gdX10_when_0 2 rfl
theorem dX10_when_5 : decode cX10_when 5 = .ok (.ifCond .eq 30, 3) := wn_at gdX10_when_0 3 rfl
theorem dX10_when_8 : decode cX10_when 8 = .ok (.aload_n 0, 1) := wn_at gdX10_when_0 4 rfl
theorem dX10_when_9 : decode cX10_when 9 = .ok (.iload_n 2, 1) := wn_at gdX10_when_0 5 rfl
theorem dX10_when_10 : decode cX10_when 10 = .ok (.invokevirtual 133, 3) := wn_at gdX10_when_0 6 rfl
theorem dX10_when_13 : decode cX10_when 13 = .ok (.ifCond .eq 22, 3) := wn_at gdX10_when_0 7 rfl
theorem dX10_when_16 : decode cX10_when 16 = .ok (.iload_n 3, 1) := wn_at gdX10_when_0 8 rfl
theorem dX10_when_17 : decode cX10_when 17 = .ok (.iconst 0, 1) := wn_at gdX10_when_0 9 rfl
theorem gdX10_when_18 : ∀ e ∈ ([(18, .sipush 9999, 3), (21, .invokestatic 91, 3), (24, .ifCond .eq 11, 3), (27, .iload 4, 2), (29, .invokestatic 182, 3), (32, .ifCond .ne 7, 3), (35, .ldc2_w 185, 3), (38, .lreturn, 1), (39, .iload_n 3, 1), (40, .i2l, 1)] : List (Nat × Instr × Nat)), decode cX10_when e.1 = .ok e.2 := wn_all _ 18 (by decide +kernel)
theorem dX10_when_18 : decode cX10_when 18 = .ok (.sipush 9999, 3) := wn_at gdX10_when_18 0 rfl
theorem dX10_when_21 : decode cX10_when 21 = .ok (.invokestatic 91, 3) := wn_at gdX10_when_18 1 rfl
theorem dX10_when_24 : decode cX10_when 24 = .ok (.ifCond .eq 11, 3) := wn_at gdX10_when_18 2 rfl
theorem dX10_when_27 : decode cX10_when 27 = .ok (.iload 4, 2) := wn_at gdX10_when_18 3 rfl
theorem dX10_when_29 : decode cX10_when 29 = .ok (.invokestatic 182, 3) := wn_at gdX10_when_18 4 rfl
theorem dX10_when_32 : decode cX10_when 32 = .ok (.ifCond .ne 7, 3) := wn_at gdX10_when_18 5 rfl
theorem dX10_when_35 : decode cX10_when 35 = .ok (.ldc2_w 185, 3) := wn_at gdX10_when_18 6 rfl
theorem dX10_when_38 : decode cX10_when 38 = .ok (.lreturn, 1) := wn_at gdX10_when_18 7 rfl
theorem dX10_when_39 : decode cX10_when 39 = .ok (.iload_n 3, 1) := wn_at gdX10_when_18 8 rfl
theorem dX10_when_40 : decode cX10_when 40 = .ok (.i2l, 1) := wn_at gdX10_when_18 9 rfl
theorem gdX10_when_41 : ∀ e ∈ ([(41, .ldc2_w 145, 3), (44, .lmul, 1), (45, .aload_n 0, 1), (46, .getfield 19, 3), (49, .getfield 109, 3), (52, .getfield 187, 3), (55, .iload_n 1, 1), (56, .laload, 1), (57, .lsub, 1), (58, .lstore 5, 2)] : List (Nat × Instr × Nat)), decode cX10_when e.1 = .ok e.2 := wn_all _ 41 (by decide +kernel)
theorem dX10_when_41 : decode cX10_when 41 = .ok (.ldc2_w 145, 3) := wn_at gdX10_when_41 0 rfl
theorem dX10_when_44 : decode cX10_when 44 = .ok (.lmul, 1) := wn_at gdX10_when_41 1 rfl
theorem dX10_when_45 : decode cX10_when 45 = .ok (.aload_n 0, 1) := wn_at gdX10_when_41 2 rfl
theorem dX10_when_46 : decode cX10_when 46 = .ok (.getfield 19, 3) := wn_at gdX10_when_41 3 rfl
theorem dX10_when_49 : decode cX10_when 49 = .ok (.getfield 109, 3) := wn_at gdX10_when_41 4 rfl
theorem dX10_when_52 : decode cX10_when 52 = .ok (.getfield 187, 3) := wn_at gdX10_when_41 5 rfl
theorem dX10_when_55 : decode cX10_when 55 = .ok (.iload_n 1, 1) := wn_at gdX10_when_41 6 rfl
theorem dX10_when_56 : decode cX10_when 56 = .ok (.laload, 1) := wn_at gdX10_when_41 7 rfl
theorem dX10_when_57 : decode cX10_when 57 = .ok (.lsub, 1) := wn_at gdX10_when_41 8 rfl
theorem dX10_when_58 : decode cX10_when 58 = .ok (.lstore 5, 2) := wn_at gdX10_when_41 9 rfl
theorem gdX10_when_60 : ∀ e ∈ ([(60, .lload 5, 2), (62, .lconst 0, 1), (63, .lcmp, 1), (64, .ifCond .ge 7, 3), (67, .ldc2_w 216, 3), (70, .lreturn, 1), (71, .lload 5, 2), (73, .aload_n 0, 1), (74, .getfield 19, 3), (77, .getfield 102, 3)] : List (Nat × Instr × Nat)), decode cX10_when e.1 = .ok e.2 := wn_all _ 60 (by decide +kernel)
theorem dX10_when_60 : decode cX10_when 60 = .ok (.lload 5, 2) := wn_at gdX10_when_60 0 rfl
theorem dX10_when_62 : decode cX10_when 62 = .ok (.lconst 0, 1) := wn_at gdX10_when_60 1 rfl
theorem dX10_when_63 : decode cX10_when 63 = .ok (.lcmp, 1) := wn_at gdX10_when_60 2 rfl
theorem dX10_when_64 : decode cX10_when 64 = .ok (.ifCond .ge 7, 3) := wn_at gdX10_when_60 3 rfl
theorem dX10_when_67 : decode cX10_when 67 = .ok (.ldc2_w 216, 3) := wn_at gdX10_when_60 4 rfl
theorem dX10_when_70 : decode cX10_when 70 = .ok (.lreturn, 1) := wn_at gdX10_when_60 5 rfl
theorem dX10_when_71 : decode cX10_when 71 = .ok (.lload 5, 2) := wn_at gdX10_when_60 6 rfl
theorem dX10_when_73 : decode cX10_when 73 = .ok (.aload_n 0, 1) := wn_at gdX10_when_60 7 rfl
theorem dX10_when_74 : decode cX10_when 74 = .ok (.getfield 19, 3) := wn_at gdX10_when_60 8 rfl
theorem dX10_when_77 : decode cX10_when 77 = .ok (.getfield 102, 3) := wn_at gdX10_when_60 9 rfl
theorem gdX10_when_80 : ∀ e ∈ ([(80, .getfield 141, 3), (83, .iload_n 2, 1), (84, .laload, 1), (85, .iload 4, 2), (87, .invokestatic 147, 3), (90, .lreturn, 1)] : List (Nat × Instr × Nat)), decode cX10_when e.1 = .ok e.2 := wn_all _ 80 (by decide +kernel)
theorem dX10_when_80 : decode cX10_when 80 = .ok (.getfield 141, 3) := wn_at gdX10_when_80 0 rfl
theorem dX10_when_83 : decode cX10_when 83 = .ok (.iload_n 2, 1) := wn_at gdX10_when_80 1 rfl
theorem dX10_when_84 : decode cX10_when 84 = .ok (.laload, 1) := wn_at gdX10_when_80 2 rfl
theorem dX10_when_85 : decode cX10_when 85 = .ok (.iload 4, 2) := wn_at gdX10_when_80 3 rfl
theorem dX10_when_87 : decode cX10_when 87 = .ok (.invokestatic 147, 3) := wn_at gdX10_when_80 4 rfl
theorem dX10_when_90 : decode cX10_when 90 = .ok (.lreturn, 1) := wn_at gdX10_when_80 5 rfl
theorem gdX10_shown_0 : ∀ e ∈ ([(0, .aload_n 0, 1), (1, .iload_n 1, 1), (2, .invokevirtual 133, 3), (5, .ifCond .eq 19, 3), (8, .iload_n 2, 1), (9, .invokestatic 229, 3), (12, .ifCond .eq 12, 3), (15, .iload_n 3, 1), (16, .iconst 0, 1), (17, .iconst 1, 1)] : List (Nat × Instr × Nat)), decode cX10_shown e.1 = .ok e.2 := wn_all _ 0 (by decide +kernel)
theorem dX10_shown_0 : decode cX10_shown 0 = .ok (.aload_n 0, 1) := wn_at gdX10_shown_0 0 rfl
theorem dX10_shown_1 : decode cX10_shown 1 = .ok (.iload_n 1, 1) := wn_at gdX10_shown_0 1 rfl
theorem dX10_shown_2 : decode cX10_shown 2 = .ok (.invokevirtual 133, 3) := wn_at gdX10_shown_0 2 rfl
theorem dX10_shown_5 : decode cX10_shown 5 = .ok (.ifCond .eq 19, 3) := wn_at gdX10_shown_0 3 rfl
theorem dX10_shown_8 : decode cX10_shown 8 = .ok (.iload_n 2, 1) := wn_at gdX10_shown_0 4 rfl
theorem dX10_shown_9 : decode cX10_shown 9 = .ok (.invokestatic 229, 3) := wn_at gdX10_shown_0 5 rfl
theorem dX10_shown_12 : decode cX10_shown 12 = .ok (.ifCond .eq 12, 3) := wn_at gdX10_shown_0 6 rfl
theorem dX10_shown_15 : decode cX10_shown 15 = .ok (.iload_n 3, 1) := wn_at gdX10_shown_0 7 rfl
theorem dX10_shown_16 : decode cX10_shown 16 = .ok (.iconst 0, 1) := wn_at gdX10_shown_0 8 rfl
theorem dX10_shown_17 : decode cX10_shown 17 = .ok (.iconst 1, 1) := wn_at gdX10_shown_0 9 rfl
theorem gdX10_shown_18 : ∀ e ∈ ([(18, .invokestatic 91, 3), (21, .ifCond .ne 5, 3), (24, .iconst (-1), 1), (25, .ireturn, 1), (26, .aload_n 0, 1), (27, .getfield 19, 3), (30, .getfield 102, 3), (33, .iload_n 1, 1), (34, .iload_n 2, 1), (35, .invokevirtual 232, 3)] : List (Nat × Instr × Nat)), decode cX10_shown e.1 = .ok e.2 := wn_all _ 18 (by decide +kernel)
theorem dX10_shown_18 : decode cX10_shown 18 = .ok (.invokestatic 91, 3) := wn_at gdX10_shown_18 0 rfl
theorem dX10_shown_21 : decode cX10_shown 21 = .ok (.ifCond .ne 5, 3) := wn_at gdX10_shown_18 1 rfl
theorem dX10_shown_24 : decode cX10_shown 24 = .ok (.iconst (-1), 1) := wn_at gdX10_shown_18 2 rfl
theorem dX10_shown_25 : decode cX10_shown 25 = .ok (.ireturn, 1) := wn_at gdX10_shown_18 3 rfl
theorem dX10_shown_26 : decode cX10_shown 26 = .ok (.aload_n 0, 1) := wn_at gdX10_shown_18 4 rfl
theorem dX10_shown_27 : decode cX10_shown 27 = .ok (.getfield 19, 3) := wn_at gdX10_shown_18 5 rfl
theorem dX10_shown_30 : decode cX10_shown 30 = .ok (.getfield 102, 3) := wn_at gdX10_shown_18 6 rfl
theorem dX10_shown_33 : decode cX10_shown 33 = .ok (.iload_n 1, 1) := wn_at gdX10_shown_18 7 rfl
theorem dX10_shown_34 : decode cX10_shown 34 = .ok (.iload_n 2, 1) := wn_at gdX10_shown_18 8 rfl
theorem dX10_shown_35 : decode cX10_shown 35 = .ok (.invokevirtual 232, 3) := wn_at gdX10_shown_18 9 rfl
theorem gdX10_shown_38 : ∀ e ∈ ([(38, .lstore 4, 2), (40, .iload_n 3, 1), (41, .ifCond .ne 12, 3), (44, .lload 4, 2), (46, .ldc2_w 277, 3), (49, .ldiv, 1), (50, .goto 13, 3), (53, .lload 4, 2), (55, .ldc2_w 277, 3), (58, .lrem, 1)] : List (Nat × Instr × Nat)), decode cX10_shown e.1 = .ok e.2 := wn_all _ 38 (by decide +kernel)
theorem dX10_shown_38 : decode cX10_shown 38 = .ok (.lstore 4, 2) := wn_at gdX10_shown_38 0 rfl
theorem dX10_shown_40 : decode cX10_shown 40 = .ok (.iload_n 3, 1) := wn_at gdX10_shown_38 1 rfl
theorem dX10_shown_41 : decode cX10_shown 41 = .ok (.ifCond .ne 12, 3) := wn_at gdX10_shown_38 2 rfl
theorem dX10_shown_44 : decode cX10_shown 44 = .ok (.lload 4, 2) := wn_at gdX10_shown_38 3 rfl
theorem dX10_shown_46 : decode cX10_shown 46 = .ok (.ldc2_w 277, 3) := wn_at gdX10_shown_38 4 rfl
theorem dX10_shown_49 : decode cX10_shown 49 = .ok (.ldiv, 1) := wn_at gdX10_shown_38 5 rfl
theorem dX10_shown_50 : decode cX10_shown 50 = .ok (.goto 13, 3) := wn_at gdX10_shown_38 6 rfl
theorem dX10_shown_53 : decode cX10_shown 53 = .ok (.lload 4, 2) := wn_at gdX10_shown_38 7 rfl
theorem dX10_shown_55 : decode cX10_shown 55 = .ok (.ldc2_w 277, 3) := wn_at gdX10_shown_38 8 rfl
theorem dX10_shown_58 : decode cX10_shown 58 = .ok (.lrem, 1) := wn_at gdX10_shown_38 9 rfl
theorem gdX10_shown_59 : ∀ e ∈ ([(59, .ldc2_w 145, 3), (62, .ldiv, 1), (63, .l2i, 1), (64, .ireturn, 1)] : List (Nat × Instr × Nat)), decode cX10_shown e.1 = .ok e.2 := wn_all _ 59 (by decide +kernel)
theorem dX10_shown_59 : decode cX10_shown 59 = .ok (.ldc2_w 145, 3) := wn_at gdX10_shown_59 0 rfl
theorem dX10_shown_62 : decode cX10_shown 62 = .ok (.ldiv, 1) := wn_at gdX10_shown_59 1 rfl
theorem dX10_shown_63 : decode cX10_shown 63 = .ok (.l2i, 1) := wn_at gdX10_shown_59 2 rfl
theorem dX10_shown_64 : decode cX10_shown 64 = .ok (.ireturn, 1) := wn_at gdX10_shown_59 3 rfl
theorem gdX10_noonsIn_0 : ∀ e ∈ ([(0, .aload_n 0, 1), (1, .iload_n 1, 1), (2, .invokevirtual 133, 3), (5, .ifCond .eq 21, 3), (8, .iload_n 2, 1), (9, .invokestatic 229, 3), (12, .ifCond .eq 14, 3), (15, .iload_n 3, 1), (16, .iload_n 2, 1), (17, .sipush 9999, 3)] : List (Nat × Instr × Nat)), decode cX10_noonsIn e.1 = .ok e.2 := wn_all _ 0 (by decide +kernel)
theorem dX10_noonsIn_0 : decode cX10_noonsIn 0 = .ok (.aload_n 0, 1) := wn_at gdX10_noonsIn_0 0 rfl
theorem dX10_noonsIn_1 : decode cX10_noonsIn 1 = .ok (.iload_n 1, 1) := wn_at gdX10_noonsIn_0 1 rfl
theorem dX10_noonsIn_2 : decode cX10_noonsIn 2 = .ok (.invokevirtual 133, 3) := wn_at gdX10_noonsIn_0 2 rfl
theorem dX10_noonsIn_5 : decode cX10_noonsIn 5 = .ok (.ifCond .eq 21, 3) := wn_at gdX10_noonsIn_0 3 rfl
theorem dX10_noonsIn_8 : decode cX10_noonsIn 8 = .ok (.iload_n 2, 1) := wn_at gdX10_noonsIn_0 4 rfl
theorem dX10_noonsIn_9 : decode cX10_noonsIn 9 = .ok (.invokestatic 229, 3) := wn_at gdX10_noonsIn_0 5 rfl
theorem dX10_noonsIn_12 : decode cX10_noonsIn 12 = .ok (.ifCond .eq 14, 3) := wn_at gdX10_noonsIn_0 6 rfl
theorem dX10_noonsIn_15 : decode cX10_noonsIn 15 = .ok (.iload_n 3, 1) := wn_at gdX10_noonsIn_0 7 rfl
theorem dX10_noonsIn_16 : decode cX10_noonsIn 16 = .ok (.iload_n 2, 1) := wn_at gdX10_noonsIn_0 8 rfl
theorem dX10_noonsIn_17 : decode cX10_noonsIn 17 = .ok (.sipush 9999, 3) := wn_at gdX10_noonsIn_0 9 rfl
theorem gdX10_noonsIn_20 : ∀ e ∈ ([(20, .invokestatic 91, 3), (23, .ifCond .ne 5, 3), (26, .iconst (-1), 1), (27, .ireturn, 1), (28, .aload_n 0, 1), (29, .getfield 19, 3), (32, .getfield 102, 3), (35, .iload_n 1, 1), (36, .iload_n 2, 1), (37, .invokevirtual 232, 3)] : List (Nat × Instr × Nat)), decode cX10_noonsIn e.1 = .ok e.2 := wn_all _ 20 (by decide +kernel)
theorem dX10_noonsIn_20 : decode cX10_noonsIn 20 = .ok (.invokestatic 91, 3) := wn_at gdX10_noonsIn_20 0 rfl
theorem dX10_noonsIn_23 : decode cX10_noonsIn 23 = .ok (.ifCond .ne 5, 3) := wn_at gdX10_noonsIn_20 1 rfl
theorem dX10_noonsIn_26 : decode cX10_noonsIn 26 = .ok (.iconst (-1), 1) := wn_at gdX10_noonsIn_20 2 rfl
theorem dX10_noonsIn_27 : decode cX10_noonsIn 27 = .ok (.ireturn, 1) := wn_at gdX10_noonsIn_20 3 rfl
theorem dX10_noonsIn_28 : decode cX10_noonsIn 28 = .ok (.aload_n 0, 1) := wn_at gdX10_noonsIn_20 4 rfl
theorem dX10_noonsIn_29 : decode cX10_noonsIn 29 = .ok (.getfield 19, 3) := wn_at gdX10_noonsIn_20 5 rfl
theorem dX10_noonsIn_32 : decode cX10_noonsIn 32 = .ok (.getfield 102, 3) := wn_at gdX10_noonsIn_20 6 rfl
theorem dX10_noonsIn_35 : decode cX10_noonsIn 35 = .ok (.iload_n 1, 1) := wn_at gdX10_noonsIn_20 7 rfl
theorem dX10_noonsIn_36 : decode cX10_noonsIn 36 = .ok (.iload_n 2, 1) := wn_at gdX10_noonsIn_20 8 rfl
theorem dX10_noonsIn_37 : decode cX10_noonsIn 37 = .ok (.invokevirtual 232, 3) := wn_at gdX10_noonsIn_20 9 rfl
theorem gdX10_noonsIn_40 : ∀ e ∈ ([(40, .lconst 1, 1), (41, .lsub, 1), (42, .lstore 4, 2), (44, .aload_n 0, 1), (45, .getfield 19, 3), (48, .getfield 102, 3), (51, .iload_n 1, 1), (52, .iload_n 3, 1), (53, .invokevirtual 232, 3), (56, .invokestatic 279, 3)] : List (Nat × Instr × Nat)), decode cX10_noonsIn e.1 = .ok e.2 := wn_all _ 40 (by decide +kernel)
theorem dX10_noonsIn_40 : decode cX10_noonsIn 40 = .ok (.lconst 1, 1) := wn_at gdX10_noonsIn_40 0 rfl
theorem dX10_noonsIn_41 : decode cX10_noonsIn 41 = .ok (.lsub, 1) := wn_at gdX10_noonsIn_40 1 rfl
theorem dX10_noonsIn_42 : decode cX10_noonsIn 42 = .ok (.lstore 4, 2) := wn_at gdX10_noonsIn_40 2 rfl
theorem dX10_noonsIn_44 : decode cX10_noonsIn 44 = .ok (.aload_n 0, 1) := wn_at gdX10_noonsIn_40 3 rfl
theorem dX10_noonsIn_45 : decode cX10_noonsIn 45 = .ok (.getfield 19, 3) := wn_at gdX10_noonsIn_40 4 rfl
theorem dX10_noonsIn_48 : decode cX10_noonsIn 48 = .ok (.getfield 102, 3) := wn_at gdX10_noonsIn_40 5 rfl
theorem dX10_noonsIn_51 : decode cX10_noonsIn 51 = .ok (.iload_n 1, 1) := wn_at gdX10_noonsIn_40 6 rfl
theorem dX10_noonsIn_52 : decode cX10_noonsIn 52 = .ok (.iload_n 3, 1) := wn_at gdX10_noonsIn_40 7 rfl
theorem dX10_noonsIn_53 : decode cX10_noonsIn 53 = .ok (.invokevirtual 232, 3) := wn_at gdX10_noonsIn_40 8 rfl
theorem dX10_noonsIn_56 : decode cX10_noonsIn 56 = .ok (.invokestatic 279, 3) := wn_at gdX10_noonsIn_40 9 rfl
theorem gdX10_noonsIn_59 : ∀ e ∈ ([(59, .lload 4, 2), (61, .invokestatic 279, 3), (64, .lsub, 1), (65, .l2i, 1), (66, .ireturn, 1)] : List (Nat × Instr × Nat)), decode cX10_noonsIn e.1 = .ok e.2 := wn_all _ 59 (by decide +kernel)
theorem dX10_noonsIn_59 : decode cX10_noonsIn 59 = .ok (.lload 4, 2) := wn_at gdX10_noonsIn_59 0 rfl
theorem dX10_noonsIn_61 : decode cX10_noonsIn 61 = .ok (.invokestatic 279, 3) := wn_at gdX10_noonsIn_59 1 rfl
theorem dX10_noonsIn_64 : decode cX10_noonsIn 64 = .ok (.lsub, 1) := wn_at gdX10_noonsIn_59 2 rfl
theorem dX10_noonsIn_65 : decode cX10_noonsIn 65 = .ok (.l2i, 1) := wn_at gdX10_noonsIn_59 3 rfl
theorem dX10_noonsIn_66 : decode cX10_noonsIn 66 = .ok (.ireturn, 1) := wn_at gdX10_noonsIn_59 4 rfl
theorem gdX10_due_0 : ∀ e ∈ ([(0, .aload_n 0, 1), (1, .iload_n 1, 1), (2, .invokevirtual 133, 3), (5, .ifCond .eq 14, 3), (8, .iload_n 2, 1), (9, .iconst 0, 1), (10, .sipush 9999, 3), (13, .invokestatic 91, 3), (16, .ifCond .ne 5, 3), (19, .iconst (-1), 1)] : List (Nat × Instr × Nat)), decode cX10_due e.1 = .ok e.2 := wn_all _ 0 (by decide +kernel)
theorem dX10_due_0 : decode cX10_due 0 = .ok (.aload_n 0, 1) := wn_at gdX10_due_0 0 rfl
theorem dX10_due_1 : decode cX10_due 1 = .ok (.iload_n 1, 1) := wn_at gdX10_due_0 1 rfl
theorem dX10_due_2 : decode cX10_due 2 = .ok (.invokevirtual 133, 3) := wn_at gdX10_due_0 2 rfl
theorem dX10_due_5 : decode cX10_due 5 = .ok (.ifCond .eq 14, 3) := wn_at gdX10_due_0 3 rfl
theorem dX10_due_8 : decode cX10_due 8 = .ok (.iload_n 2, 1) := wn_at gdX10_due_0 4 rfl
theorem dX10_due_9 : decode cX10_due 9 = .ok (.iconst 0, 1) := wn_at gdX10_due_0 5 rfl
theorem dX10_due_10 : decode cX10_due 10 = .ok (.sipush 9999, 3) := wn_at gdX10_due_0 6 rfl
theorem dX10_due_13 : decode cX10_due 13 = .ok (.invokestatic 91, 3) := wn_at gdX10_due_0 7 rfl
theorem dX10_due_16 : decode cX10_due 16 = .ok (.ifCond .ne 5, 3) := wn_at gdX10_due_0 8 rfl
theorem dX10_due_19 : decode cX10_due 19 = .ok (.iconst (-1), 1) := wn_at gdX10_due_0 9 rfl
theorem gdX10_due_20 : ∀ e ∈ ([(20, .ireturn, 1), (21, .iload_n 2, 1), (22, .i2l, 1), (23, .ldc2_w 277, 3), (26, .lmul, 1), (27, .aload_n 0, 1), (28, .getfield 19, 3), (31, .getfield 102, 3), (34, .getfield 141, 3), (37, .iload_n 1, 1)] : List (Nat × Instr × Nat)), decode cX10_due e.1 = .ok e.2 := wn_all _ 20 (by decide +kernel)
theorem dX10_due_20 : decode cX10_due 20 = .ok (.ireturn, 1) := wn_at gdX10_due_20 0 rfl
theorem dX10_due_21 : decode cX10_due 21 = .ok (.iload_n 2, 1) := wn_at gdX10_due_20 1 rfl
theorem dX10_due_22 : decode cX10_due 22 = .ok (.i2l, 1) := wn_at gdX10_due_20 2 rfl
theorem dX10_due_23 : decode cX10_due 23 = .ok (.ldc2_w 277, 3) := wn_at gdX10_due_20 3 rfl
theorem dX10_due_26 : decode cX10_due 26 = .ok (.lmul, 1) := wn_at gdX10_due_20 4 rfl
theorem dX10_due_27 : decode cX10_due 27 = .ok (.aload_n 0, 1) := wn_at gdX10_due_20 5 rfl
theorem dX10_due_28 : decode cX10_due 28 = .ok (.getfield 19, 3) := wn_at gdX10_due_20 6 rfl
theorem dX10_due_31 : decode cX10_due 31 = .ok (.getfield 102, 3) := wn_at gdX10_due_20 7 rfl
theorem dX10_due_34 : decode cX10_due 34 = .ok (.getfield 141, 3) := wn_at gdX10_due_20 8 rfl
theorem dX10_due_37 : decode cX10_due 37 = .ok (.iload_n 1, 1) := wn_at gdX10_due_20 9 rfl
theorem gdX10_due_38 : ∀ e ∈ ([(38, .laload, 1), (39, .invokestatic 270, 3), (42, .l2i, 1), (43, .ireturn, 1)] : List (Nat × Instr × Nat)), decode cX10_due e.1 = .ok e.2 := wn_all _ 38 (by decide +kernel)
theorem dX10_due_38 : decode cX10_due 38 = .ok (.laload, 1) := wn_at gdX10_due_38 0 rfl
theorem dX10_due_39 : decode cX10_due 39 = .ok (.invokestatic 270, 3) := wn_at gdX10_due_38 1 rfl
theorem dX10_due_42 : decode cX10_due 42 = .ok (.l2i, 1) := wn_at gdX10_due_38 2 rfl
theorem dX10_due_43 : decode cX10_due 43 = .ok (.ireturn, 1) := wn_at gdX10_due_38 3 rfl
theorem gdX10_needed_0 : ∀ e ∈ ([(0, .iconst 0, 1), (1, .istore_n 1, 1), (2, .iconst 0, 1), (3, .istore_n 2, 1), (4, .iload_n 2, 1), (5, .aload_n 0, 1), (6, .getfield 19, 3), (9, .getfield 102, 3), (12, .getfield 151, 3), (15, .if_icmp .ge 29, 3)] : List (Nat × Instr × Nat)), decode cX10_needed e.1 = .ok e.2 := wn_all _ 0 (by decide +kernel)
theorem dX10_needed_0 : decode cX10_needed 0 = .ok (.iconst 0, 1) := wn_at gdX10_needed_0 0 rfl
theorem dX10_needed_1 : decode cX10_needed 1 = .ok (.istore_n 1, 1) := wn_at gdX10_needed_0 1 rfl
theorem dX10_needed_2 : decode cX10_needed 2 = .ok (.iconst 0, 1) := wn_at gdX10_needed_0 2 rfl
theorem dX10_needed_3 : decode cX10_needed 3 = .ok (.istore_n 2, 1) := wn_at gdX10_needed_0 3 rfl
theorem dX10_needed_4 : decode cX10_needed 4 = .ok (.iload_n 2, 1) := wn_at gdX10_needed_0 4 rfl
theorem dX10_needed_5 : decode cX10_needed 5 = .ok (.aload_n 0, 1) := wn_at gdX10_needed_0 5 rfl
theorem dX10_needed_6 : decode cX10_needed 6 = .ok (.getfield 19, 3) := wn_at gdX10_needed_0 6 rfl
theorem dX10_needed_9 : decode cX10_needed 9 = .ok (.getfield 102, 3) := wn_at gdX10_needed_0 7 rfl
theorem dX10_needed_12 : decode cX10_needed 12 = .ok (.getfield 151, 3) := wn_at gdX10_needed_0 8 rfl
theorem dX10_needed_15 : decode cX10_needed 15 = .ok (.if_icmp .ge 29, 3) := wn_at gdX10_needed_0 9 rfl
theorem gdX10_needed_18 : ∀ e ∈ ([(18, .aload_n 0, 1), (19, .getfield 19, 3), (22, .getfield 102, 3), (25, .iload_n 2, 1), (26, .invokevirtual 282, 3), (29, .ifCond .ne 9, 3), (32, .iload_n 1, 1), (33, .iconst 1, 1), (34, .iload_n 2, 1), (35, .ishl, 1)] : List (Nat × Instr × Nat)), decode cX10_needed e.1 = .ok e.2 := wn_all _ 18 (by decide +kernel)
theorem dX10_needed_18 : decode cX10_needed 18 = .ok (.aload_n 0, 1) := wn_at gdX10_needed_18 0 rfl
theorem dX10_needed_19 : decode cX10_needed 19 = .ok (.getfield 19, 3) := wn_at gdX10_needed_18 1 rfl
theorem dX10_needed_22 : decode cX10_needed 22 = .ok (.getfield 102, 3) := wn_at gdX10_needed_18 2 rfl
theorem dX10_needed_25 : decode cX10_needed 25 = .ok (.iload_n 2, 1) := wn_at gdX10_needed_18 3 rfl
theorem dX10_needed_26 : decode cX10_needed 26 = .ok (.invokevirtual 282, 3) := wn_at gdX10_needed_18 4 rfl
theorem dX10_needed_29 : decode cX10_needed 29 = .ok (.ifCond .ne 9, 3) := wn_at gdX10_needed_18 5 rfl
theorem dX10_needed_32 : decode cX10_needed 32 = .ok (.iload_n 1, 1) := wn_at gdX10_needed_18 6 rfl
theorem dX10_needed_33 : decode cX10_needed 33 = .ok (.iconst 1, 1) := wn_at gdX10_needed_18 7 rfl
theorem dX10_needed_34 : decode cX10_needed 34 = .ok (.iload_n 2, 1) := wn_at gdX10_needed_18 8 rfl
theorem dX10_needed_35 : decode cX10_needed 35 = .ok (.ishl, 1) := wn_at gdX10_needed_18 9 rfl
theorem gdX10_needed_36 : ∀ e ∈ ([(36, .ior, 1), (37, .istore_n 1, 1), (38, .iinc 2 1, 3), (41, .goto (-37), 3), (44, .iload_n 1, 1), (45, .ireturn, 1)] : List (Nat × Instr × Nat)), decode cX10_needed e.1 = .ok e.2 := wn_all _ 36 (by decide +kernel)
theorem dX10_needed_36 : decode cX10_needed 36 = .ok (.ior, 1) := wn_at gdX10_needed_36 0 rfl
theorem dX10_needed_37 : decode cX10_needed 37 = .ok (.istore_n 1, 1) := wn_at gdX10_needed_36 1 rfl
theorem dX10_needed_38 : decode cX10_needed 38 = .ok (.iinc 2 1, 3) := wn_at gdX10_needed_36 2 rfl
theorem dX10_needed_41 : decode cX10_needed 41 = .ok (.goto (-37), 3) := wn_at gdX10_needed_36 3 rfl
theorem dX10_needed_44 : decode cX10_needed 44 = .ok (.iload_n 1, 1) := wn_at gdX10_needed_36 4 rfl
theorem dX10_needed_45 : decode cX10_needed 45 = .ok (.ireturn, 1) := wn_at gdX10_needed_36 5 rfl
theorem gdX10_elder_0 : ∀ e ∈ ([(0, .aload_n 0, 1), (1, .iload_n 1, 1), (2, .invokevirtual 197, 3), (5, .ifCond .eq 14, 3), (8, .iload_n 2, 1), (9, .iconst 0, 1), (10, .sipush 200, 3), (13, .invokestatic 91, 3), (16, .ifCond .ne 7, 3), (19, .ldc2_w 185, 3)] : List (Nat × Instr × Nat)), decode cX10_elder e.1 = .ok e.2 := wn_all _ 0 (by decide +kernel)
theorem dX10_elder_0 : decode cX10_elder 0 = .ok (.aload_n 0, 1) := wn_at gdX10_elder_0 0 rfl
theorem dX10_elder_1 : decode cX10_elder 1 = .ok (.iload_n 1, 1) := wn_at gdX10_elder_0 1 rfl
theorem dX10_elder_2 : decode cX10_elder 2 = .ok (.invokevirtual 197, 3) := wn_at gdX10_elder_0 2 rfl
theorem dX10_elder_5 : decode cX10_elder 5 = .ok (.ifCond .eq 14, 3) := wn_at gdX10_elder_0 3 rfl
theorem dX10_elder_8 : decode cX10_elder 8 = .ok (.iload_n 2, 1) := wn_at gdX10_elder_0 4 rfl
theorem dX10_elder_9 : decode cX10_elder 9 = .ok (.iconst 0, 1) := wn_at gdX10_elder_0 5 rfl
theorem dX10_elder_10 : decode cX10_elder 10 = .ok (.sipush 200, 3) := wn_at gdX10_elder_0 6 rfl
theorem dX10_elder_13 : decode cX10_elder 13 = .ok (.invokestatic 91, 3) := wn_at gdX10_elder_0 7 rfl
theorem dX10_elder_16 : decode cX10_elder 16 = .ok (.ifCond .ne 7, 3) := wn_at gdX10_elder_0 8 rfl
theorem dX10_elder_19 : decode cX10_elder 19 = .ok (.ldc2_w 185, 3) := wn_at gdX10_elder_0 9 rfl
theorem gdX10_elder_22 : ∀ e ∈ ([(22, .lreturn, 1), (23, .aload_n 0, 1), (24, .getfield 19, 3), (27, .getfield 109, 3), (30, .getfield 285, 3), (33, .ifCond .eq 12, 3), (36, .iload_n 3, 1), (37, .iconst 0, 1), (38, .iconst 3, 1), (39, .invokestatic 91, 3)] : List (Nat × Instr × Nat)), decode cX10_elder e.1 = .ok e.2 := wn_all _ 22 (by decide +kernel)
theorem dX10_elder_22 : decode cX10_elder 22 = .ok (.lreturn, 1) := wn_at gdX10_elder_22 0 rfl
theorem dX10_elder_23 : decode cX10_elder 23 = .ok (.aload_n 0, 1) := wn_at gdX10_elder_22 1 rfl
theorem dX10_elder_24 : decode cX10_elder 24 = .ok (.getfield 19, 3) := wn_at gdX10_elder_22 2 rfl
theorem dX10_elder_27 : decode cX10_elder 27 = .ok (.getfield 109, 3) := wn_at gdX10_elder_22 3 rfl
theorem dX10_elder_30 : decode cX10_elder 30 = .ok (.getfield 285, 3) := wn_at gdX10_elder_22 4 rfl
theorem dX10_elder_33 : decode cX10_elder 33 = .ok (.ifCond .eq 12, 3) := wn_at gdX10_elder_22 5 rfl
theorem dX10_elder_36 : decode cX10_elder 36 = .ok (.iload_n 3, 1) := wn_at gdX10_elder_22 6 rfl
theorem dX10_elder_37 : decode cX10_elder 37 = .ok (.iconst 0, 1) := wn_at gdX10_elder_22 7 rfl
theorem dX10_elder_38 : decode cX10_elder 38 = .ok (.iconst 3, 1) := wn_at gdX10_elder_22 8 rfl
theorem dX10_elder_39 : decode cX10_elder 39 = .ok (.invokestatic 91, 3) := wn_at gdX10_elder_22 9 rfl
theorem gdX10_elder_42 : ∀ e ∈ ([(42, .ifCond .ne 7, 3), (45, .ldc2_w 185, 3), (48, .lreturn, 1), (49, .aload_n 0, 1), (50, .iload_n 1, 1), (51, .iload_n 2, 1), (52, .invokevirtual 211, 3), (55, .aload_n 0, 1), (56, .getfield 43, 3), (59, .invokevirtual 286, 3)] : List (Nat × Instr × Nat)), decode cX10_elder e.1 = .ok e.2 := wn_all _ 42 (by decide +kernel)
theorem dX10_elder_42 : decode cX10_elder 42 = .ok (.ifCond .ne 7, 3) := wn_at gdX10_elder_42 0 rfl
theorem dX10_elder_45 : decode cX10_elder 45 = .ok (.ldc2_w 185, 3) := wn_at gdX10_elder_42 1 rfl
theorem dX10_elder_48 : decode cX10_elder 48 = .ok (.lreturn, 1) := wn_at gdX10_elder_42 2 rfl
theorem dX10_elder_49 : decode cX10_elder 49 = .ok (.aload_n 0, 1) := wn_at gdX10_elder_42 3 rfl
theorem dX10_elder_50 : decode cX10_elder 50 = .ok (.iload_n 1, 1) := wn_at gdX10_elder_42 4 rfl
theorem dX10_elder_51 : decode cX10_elder 51 = .ok (.iload_n 2, 1) := wn_at gdX10_elder_42 5 rfl
theorem dX10_elder_52 : decode cX10_elder 52 = .ok (.invokevirtual 211, 3) := wn_at gdX10_elder_42 6 rfl
theorem dX10_elder_55 : decode cX10_elder 55 = .ok (.aload_n 0, 1) := wn_at gdX10_elder_42 7 rfl
theorem dX10_elder_56 : decode cX10_elder 56 = .ok (.getfield 43, 3) := wn_at gdX10_elder_42 8 rfl
theorem dX10_elder_59 : decode cX10_elder 59 = .ok (.invokevirtual 286, 3) := wn_at gdX10_elder_42 9 rfl
theorem gdX10_elder_62 : ∀ e ∈ ([(62, .istore 4, 2), (64, .aload_n 0, 1), (65, .getfield 43, 3), (68, .invokevirtual 289, 3), (71, .istore 5, 2), (73, .iload_n 3, 1), (74, .iconst 2, 1), (75, .if_icmp .ge 17, 3), (78, .iload_n 3, 1), (79, .ifCond .ne 9, 3)] : List (Nat × Instr × Nat)), decode cX10_elder e.1 = .ok e.2 := wn_all _ 62 (by decide +kernel)
theorem dX10_elder_62 : decode cX10_elder 62 = .ok (.istore 4, 2) := wn_at gdX10_elder_62 0 rfl
theorem dX10_elder_64 : decode cX10_elder 64 = .ok (.aload_n 0, 1) := wn_at gdX10_elder_62 1 rfl
theorem dX10_elder_65 : decode cX10_elder 65 = .ok (.getfield 43, 3) := wn_at gdX10_elder_62 2 rfl
theorem dX10_elder_68 : decode cX10_elder 68 = .ok (.invokevirtual 289, 3) := wn_at gdX10_elder_62 3 rfl
theorem dX10_elder_71 : decode cX10_elder 71 = .ok (.istore 5, 2) := wn_at gdX10_elder_62 4 rfl
theorem dX10_elder_73 : decode cX10_elder 73 = .ok (.iload_n 3, 1) := wn_at gdX10_elder_62 5 rfl
theorem dX10_elder_74 : decode cX10_elder 74 = .ok (.iconst 2, 1) := wn_at gdX10_elder_62 6 rfl
theorem dX10_elder_75 : decode cX10_elder 75 = .ok (.if_icmp .ge 17, 3) := wn_at gdX10_elder_62 7 rfl
theorem dX10_elder_78 : decode cX10_elder 78 = .ok (.iload_n 3, 1) := wn_at gdX10_elder_62 8 rfl
theorem dX10_elder_79 : decode cX10_elder 79 = .ok (.ifCond .ne 9, 3) := wn_at gdX10_elder_62 9 rfl
theorem gdX10_elder_82 : ∀ e ∈ ([(82, .iload 4, 2), (84, .i2l, 1), (85, .goto 6, 3), (88, .iload 5, 2), (90, .i2l, 1), (91, .lreturn, 1), (92, .aload_n 0, 1), (93, .getfield 43, 3), (96, .getfield 187, 3), (99, .iload 4, 2)] : List (Nat × Instr × Nat)), decode cX10_elder e.1 = .ok e.2 := wn_all _ 82 (by decide +kernel)
theorem dX10_elder_82 : decode cX10_elder 82 = .ok (.iload 4, 2) := wn_at gdX10_elder_82 0 rfl
theorem dX10_elder_84 : decode cX10_elder 84 = .ok (.i2l, 1) := wn_at gdX10_elder_82 1 rfl
theorem dX10_elder_85 : decode cX10_elder 85 = .ok (.goto 6, 3) := wn_at gdX10_elder_82 2 rfl
theorem dX10_elder_88 : decode cX10_elder 88 = .ok (.iload 5, 2) := wn_at gdX10_elder_82 3 rfl
theorem dX10_elder_90 : decode cX10_elder 90 = .ok (.i2l, 1) := wn_at gdX10_elder_82 4 rfl
theorem dX10_elder_91 : decode cX10_elder 91 = .ok (.lreturn, 1) := wn_at gdX10_elder_82 5 rfl
theorem dX10_elder_92 : decode cX10_elder 92 = .ok (.aload_n 0, 1) := wn_at gdX10_elder_82 6 rfl
theorem dX10_elder_93 : decode cX10_elder 93 = .ok (.getfield 43, 3) := wn_at gdX10_elder_82 7 rfl
theorem dX10_elder_96 : decode cX10_elder 96 = .ok (.getfield 187, 3) := wn_at gdX10_elder_82 8 rfl
theorem dX10_elder_99 : decode cX10_elder 99 = .ok (.iload 4, 2) := wn_at gdX10_elder_82 9 rfl
theorem gdX10_elder_101 : ∀ e ∈ ([(101, .laload, 1), (102, .aload_n 0, 1), (103, .getfield 43, 3), (106, .getfield 187, 3), (109, .iload 5, 2), (111, .laload, 1), (112, .lsub, 1), (113, .ldc2_w 145, 3), (116, .iload_n 3, 1), (117, .iconst 2, 1)] : List (Nat × Instr × Nat)), decode cX10_elder e.1 = .ok e.2 := wn_all _ 101 (by decide +kernel)
theorem dX10_elder_101 : decode cX10_elder 101 = .ok (.laload, 1) := wn_at gdX10_elder_101 0 rfl
theorem dX10_elder_102 : decode cX10_elder 102 = .ok (.aload_n 0, 1) := wn_at gdX10_elder_101 1 rfl
theorem dX10_elder_103 : decode cX10_elder 103 = .ok (.getfield 43, 3) := wn_at gdX10_elder_101 2 rfl
theorem dX10_elder_106 : decode cX10_elder 106 = .ok (.getfield 187, 3) := wn_at gdX10_elder_101 3 rfl
theorem dX10_elder_109 : decode cX10_elder 109 = .ok (.iload 5, 2) := wn_at gdX10_elder_101 4 rfl
theorem dX10_elder_111 : decode cX10_elder 111 = .ok (.laload, 1) := wn_at gdX10_elder_101 5 rfl
theorem dX10_elder_112 : decode cX10_elder 112 = .ok (.lsub, 1) := wn_at gdX10_elder_101 6 rfl
theorem dX10_elder_113 : decode cX10_elder 113 = .ok (.ldc2_w 145, 3) := wn_at gdX10_elder_101 7 rfl
theorem dX10_elder_116 : decode cX10_elder 116 = .ok (.iload_n 3, 1) := wn_at gdX10_elder_101 8 rfl
theorem dX10_elder_117 : decode cX10_elder 117 = .ok (.iconst 2, 1) := wn_at gdX10_elder_101 9 rfl
theorem gdX10_elder_118 : ∀ e ∈ ([(118, .isub, 1), (119, .invokestatic 147, 3), (122, .lreturn, 1)] : List (Nat × Instr × Nat)), decode cX10_elder e.1 = .ok e.2 := wn_all _ 118 (by decide +kernel)
theorem dX10_elder_118 : decode cX10_elder 118 = .ok (.isub, 1) := wn_at gdX10_elder_118 0 rfl
theorem dX10_elder_119 : decode cX10_elder 119 = .ok (.invokestatic 147, 3) := wn_at gdX10_elder_118 1 rfl
theorem dX10_elder_122 : decode cX10_elder 122 = .ok (.lreturn, 1) := wn_at gdX10_elder_118 2 rfl
theorem gdX10_letter_0 : ∀ e ∈ ([(0, .aload_n 0, 1), (1, .getfield 19, 3), (4, .getfield 115, 3), (7, .astore 4, 2), (9, .iload_n 1, 1), (10, .iconst (-1), 1), (11, .if_icmp .ne 11, 3), (14, .aload 4, 2), (16, .iconst 0, 1), (17, .putfield 119, 3)] : List (Nat × Instr × Nat)), decode cX10_letter e.1 = .ok e.2 := wn_all _ 0 (by decide +kernel)
theorem dX10_letter_0 : decode cX10_letter 0 = .ok (.aload_n 0, 1) := wn_at gdX10_letter_0 0 rfl
theorem dX10_letter_1 : decode cX10_letter 1 = .ok (.getfield 19, 3) := wn_at gdX10_letter_0 1 rfl
theorem dX10_letter_4 : decode cX10_letter 4 = .ok (.getfield 115, 3) := wn_at gdX10_letter_0 2 rfl
theorem dX10_letter_7 : decode cX10_letter 7 = .ok (.astore 4, 2) := wn_at gdX10_letter_0 3 rfl
theorem dX10_letter_9 : decode cX10_letter 9 = .ok (.iload_n 1, 1) := wn_at gdX10_letter_0 4 rfl
theorem dX10_letter_10 : decode cX10_letter 10 = .ok (.iconst (-1), 1) := wn_at gdX10_letter_0 5 rfl
theorem dX10_letter_11 : decode cX10_letter 11 = .ok (.if_icmp .ne 11, 3) := wn_at gdX10_letter_0 6 rfl
theorem dX10_letter_14 : decode cX10_letter 14 = .ok (.aload 4, 2) := wn_at gdX10_letter_0 7 rfl
theorem dX10_letter_16 : decode cX10_letter 16 = .ok (.iconst 0, 1) := wn_at gdX10_letter_0 8 rfl
theorem dX10_letter_17 : decode cX10_letter 17 = .ok (.putfield 119, 3) := wn_at gdX10_letter_0 9 rfl
theorem gdX10_letter_20 : ∀ e ∈ ([(20, .iconst 0, 1), (21, .ireturn, 1), (22, .aload_n 0, 1), (23, .iload_n 1, 1), (24, .invokevirtual 133, 3), (27, .ifCond .eq 28, 3), (30, .aload_n 0, 1), (31, .iload_n 2, 1), (32, .invokevirtual 133, 3), (35, .ifCond .eq 20, 3)] : List (Nat × Instr × Nat)), decode cX10_letter e.1 = .ok e.2 := wn_all _ 20 (by decide +kernel)
theorem dX10_letter_20 : decode cX10_letter 20 = .ok (.iconst 0, 1) := wn_at gdX10_letter_20 0 rfl
theorem dX10_letter_21 : decode cX10_letter 21 = .ok (.ireturn, 1) := wn_at gdX10_letter_20 1 rfl
theorem dX10_letter_22 : decode cX10_letter 22 = .ok (.aload_n 0, 1) := wn_at gdX10_letter_20 2 rfl
theorem dX10_letter_23 : decode cX10_letter 23 = .ok (.iload_n 1, 1) := wn_at gdX10_letter_20 3 rfl
theorem dX10_letter_24 : decode cX10_letter 24 = .ok (.invokevirtual 133, 3) := wn_at gdX10_letter_20 4 rfl
theorem dX10_letter_27 : decode cX10_letter 27 = .ok (.ifCond .eq 28, 3) := wn_at gdX10_letter_20 5 rfl
theorem dX10_letter_30 : decode cX10_letter 30 = .ok (.aload_n 0, 1) := wn_at gdX10_letter_20 6 rfl
theorem dX10_letter_31 : decode cX10_letter 31 = .ok (.iload_n 2, 1) := wn_at gdX10_letter_20 7 rfl
theorem dX10_letter_32 : decode cX10_letter 32 = .ok (.invokevirtual 133, 3) := wn_at gdX10_letter_20 8 rfl
theorem dX10_letter_35 : decode cX10_letter 35 = .ok (.ifCond .eq 20, 3) := wn_at gdX10_letter_20 9 rfl
theorem gdX10_letter_38 : ∀ e ∈ ([(38, .iload_n 3, 1), (39, .invokestatic 229, 3), (42, .ifCond .eq 13, 3), (45, .aload 4, 2), (47, .getfield 119, 3), (50, .bipush 12, 2), (52, .if_icmp .lt 6, 3), (55, .bipush (-2), 2), (57, .ireturn, 1), (58, .aload_n 0, 1)] : List (Nat × Instr × Nat)), decode cX10_letter e.1 = .ok e.2 := wn_all _ 38 (by decide +kernel)
theorem dX10_letter_38 : decode cX10_letter 38 = .ok (.iload_n 3, 1) := wn_at gdX10_letter_38 0 rfl
theorem dX10_letter_39 : decode cX10_letter 39 = .ok (.invokestatic 229, 3) := wn_at gdX10_letter_38 1 rfl
theorem dX10_letter_42 : decode cX10_letter 42 = .ok (.ifCond .eq 13, 3) := wn_at gdX10_letter_38 2 rfl
theorem dX10_letter_45 : decode cX10_letter 45 = .ok (.aload 4, 2) := wn_at gdX10_letter_38 3 rfl
theorem dX10_letter_47 : decode cX10_letter 47 = .ok (.getfield 119, 3) := wn_at gdX10_letter_38 4 rfl
theorem dX10_letter_50 : decode cX10_letter 50 = .ok (.bipush 12, 2) := wn_at gdX10_letter_38 5 rfl
theorem dX10_letter_52 : decode cX10_letter 52 = .ok (.if_icmp .lt 6, 3) := wn_at gdX10_letter_38 6 rfl
theorem dX10_letter_55 : decode cX10_letter 55 = .ok (.bipush (-2), 2) := wn_at gdX10_letter_38 7 rfl
theorem dX10_letter_57 : decode cX10_letter 57 = .ok (.ireturn, 1) := wn_at gdX10_letter_38 8 rfl
theorem dX10_letter_58 : decode cX10_letter 58 = .ok (.aload_n 0, 1) := wn_at gdX10_letter_38 9 rfl
theorem gdX10_letter_59 : ∀ e ∈ ([(59, .getfield 19, 3), (62, .getfield 102, 3), (65, .iload_n 1, 1), (66, .iload_n 2, 1), (67, .invokevirtual 222, 3), (70, .istore 5, 2), (72, .iload 5, 2), (74, .ifCond .ge 6, 3), (77, .bipush (-2), 2), (79, .ireturn, 1)] : List (Nat × Instr × Nat)), decode cX10_letter e.1 = .ok e.2 := wn_all _ 59 (by decide +kernel)
theorem dX10_letter_59 : decode cX10_letter 59 = .ok (.getfield 19, 3) := wn_at gdX10_letter_59 0 rfl
theorem dX10_letter_62 : decode cX10_letter 62 = .ok (.getfield 102, 3) := wn_at gdX10_letter_59 1 rfl
theorem dX10_letter_65 : decode cX10_letter 65 = .ok (.iload_n 1, 1) := wn_at gdX10_letter_59 2 rfl
theorem dX10_letter_66 : decode cX10_letter 66 = .ok (.iload_n 2, 1) := wn_at gdX10_letter_59 3 rfl
theorem dX10_letter_67 : decode cX10_letter 67 = .ok (.invokevirtual 222, 3) := wn_at gdX10_letter_59 4 rfl
theorem dX10_letter_70 : decode cX10_letter 70 = .ok (.istore 5, 2) := wn_at gdX10_letter_59 5 rfl
theorem dX10_letter_72 : decode cX10_letter 72 = .ok (.iload 5, 2) := wn_at gdX10_letter_59 6 rfl
theorem dX10_letter_74 : decode cX10_letter 74 = .ok (.ifCond .ge 6, 3) := wn_at gdX10_letter_59 7 rfl
theorem dX10_letter_77 : decode cX10_letter 77 = .ok (.bipush (-2), 2) := wn_at gdX10_letter_59 8 rfl
theorem dX10_letter_79 : decode cX10_letter 79 = .ok (.ireturn, 1) := wn_at gdX10_letter_59 9 rfl
theorem gdX10_letter_80 : ∀ e ∈ ([(80, .aload 4, 2), (82, .iload_n 1, 1), (83, .iload_n 2, 1), (84, .iload_n 3, 1), (85, .iload_n 3, 1), (86, .iload 5, 2), (88, .iadd, 1), (89, .invokevirtual 292, 3), (92, .aload 4, 2), (94, .getfield 119, 3)] : List (Nat × Instr × Nat)), decode cX10_letter e.1 = .ok e.2 := wn_all _ 80 (by decide +kernel)
theorem dX10_letter_80 : decode cX10_letter 80 = .ok (.aload 4, 2) := wn_at gdX10_letter_80 0 rfl
theorem dX10_letter_82 : decode cX10_letter 82 = .ok (.iload_n 1, 1) := wn_at gdX10_letter_80 1 rfl
theorem dX10_letter_83 : decode cX10_letter 83 = .ok (.iload_n 2, 1) := wn_at gdX10_letter_80 2 rfl
theorem dX10_letter_84 : decode cX10_letter 84 = .ok (.iload_n 3, 1) := wn_at gdX10_letter_80 3 rfl
theorem dX10_letter_85 : decode cX10_letter 85 = .ok (.iload_n 3, 1) := wn_at gdX10_letter_80 4 rfl
theorem dX10_letter_86 : decode cX10_letter 86 = .ok (.iload 5, 2) := wn_at gdX10_letter_80 5 rfl
theorem dX10_letter_88 : decode cX10_letter 88 = .ok (.iadd, 1) := wn_at gdX10_letter_80 6 rfl
theorem dX10_letter_89 : decode cX10_letter 89 = .ok (.invokevirtual 292, 3) := wn_at gdX10_letter_80 7 rfl
theorem dX10_letter_92 : decode cX10_letter 92 = .ok (.aload 4, 2) := wn_at gdX10_letter_80 8 rfl
theorem dX10_letter_94 : decode cX10_letter 94 = .ok (.getfield 119, 3) := wn_at gdX10_letter_80 9 rfl
theorem gdX10_letter_97 : ∀ e ∈ ([(97, .ireturn, 1)] : List (Nat × Instr × Nat)), decode cX10_letter e.1 = .ok e.2 := wn_all _ 97 (by decide +kernel)
theorem dX10_letter_97 : decode cX10_letter 97 = .ok (.ireturn, 1) := wn_at gdX10_letter_97 0 rfl
theorem gdX10_letters_0 : ∀ e ∈ ([(0, .aload_n 0, 1), (1, .getfield 19, 3), (4, .getfield 115, 3), (7, .astore_n 3, 1), (8, .iload_n 1, 1), (9, .iconst 0, 1), (10, .aload_n 3, 1), (11, .getfield 119, 3), (14, .iconst 1, 1), (15, .isub, 1)] : List (Nat × Instr × Nat)), decode cX10_letters e.1 = .ok e.2 := wn_all _ 0 (by decide +kernel)
theorem dX10_letters_0 : decode cX10_letters 0 = .ok (.aload_n 0, 1) := wn_at gdX10_letters_0 0 rfl
theorem dX10_letters_1 : decode cX10_letters 1 = .ok (.getfield 19, 3) := wn_at gdX10_letters_0 1 rfl
theorem dX10_letters_4 : decode cX10_letters 4 = .ok (.getfield 115, 3) := wn_at gdX10_letters_0 2 rfl
theorem dX10_letters_7 : decode cX10_letters 7 = .ok (.astore_n 3, 1) := wn_at gdX10_letters_0 3 rfl
theorem dX10_letters_8 : decode cX10_letters 8 = .ok (.iload_n 1, 1) := wn_at gdX10_letters_0 4 rfl
theorem dX10_letters_9 : decode cX10_letters 9 = .ok (.iconst 0, 1) := wn_at gdX10_letters_0 5 rfl
theorem dX10_letters_10 : decode cX10_letters 10 = .ok (.aload_n 3, 1) := wn_at gdX10_letters_0 6 rfl
theorem dX10_letters_11 : decode cX10_letters 11 = .ok (.getfield 119, 3) := wn_at gdX10_letters_0 7 rfl
theorem dX10_letters_14 : decode cX10_letters 14 = .ok (.iconst 1, 1) := wn_at gdX10_letters_0 8 rfl
theorem dX10_letters_15 : decode cX10_letters 15 = .ok (.isub, 1) := wn_at gdX10_letters_0 9 rfl
theorem gdX10_letters_16 : ∀ e ∈ ([(16, .invokestatic 91, 3), (19, .ifCond .eq 12, 3), (22, .iload_n 2, 1), (23, .iconst 0, 1), (24, .iconst 4, 1), (25, .invokestatic 91, 3), (28, .ifCond .ne 5, 3), (31, .iconst (-1), 1), (32, .ireturn, 1), (33, .iload_n 2, 1)] : List (Nat × Instr × Nat)), decode cX10_letters e.1 = .ok e.2 := wn_all _ 16 (by decide +kernel)
theorem dX10_letters_16 : decode cX10_letters 16 = .ok (.invokestatic 91, 3) := wn_at gdX10_letters_16 0 rfl
theorem dX10_letters_19 : decode cX10_letters 19 = .ok (.ifCond .eq 12, 3) := wn_at gdX10_letters_16 1 rfl
theorem dX10_letters_22 : decode cX10_letters 22 = .ok (.iload_n 2, 1) := wn_at gdX10_letters_16 2 rfl
theorem dX10_letters_23 : decode cX10_letters 23 = .ok (.iconst 0, 1) := wn_at gdX10_letters_16 3 rfl
theorem dX10_letters_24 : decode cX10_letters 24 = .ok (.iconst 4, 1) := wn_at gdX10_letters_16 4 rfl
theorem dX10_letters_25 : decode cX10_letters 25 = .ok (.invokestatic 91, 3) := wn_at gdX10_letters_16 5 rfl
theorem dX10_letters_28 : decode cX10_letters 28 = .ok (.ifCond .ne 5, 3) := wn_at gdX10_letters_16 6 rfl
theorem dX10_letters_31 : decode cX10_letters 31 = .ok (.iconst (-1), 1) := wn_at gdX10_letters_16 7 rfl
theorem dX10_letters_32 : decode cX10_letters 32 = .ok (.ireturn, 1) := wn_at gdX10_letters_16 8 rfl
theorem dX10_letters_33 : decode cX10_letters 33 = .ok (.iload_n 2, 1) := wn_at gdX10_letters_16 9 rfl
theorem dX10_letters_34 : decode cX10_letters 34 = .ok (.tableswitch 58 0 3 #[30, 37, 44, 51], 30) := by decide +kernel
theorem gdX10_letters_64 : ∀ e ∈ ([(64, .aload_n 3, 1), (65, .getfield 296, 3), (68, .iload_n 1, 1), (69, .iaload, 1), (70, .ireturn, 1), (71, .aload_n 3, 1), (72, .getfield 299, 3), (75, .iload_n 1, 1), (76, .iaload, 1), (77, .ireturn, 1)] : List (Nat × Instr × Nat)), decode cX10_letters e.1 = .ok e.2 := wn_all _ 64 (by decide +kernel)
theorem dX10_letters_64 : decode cX10_letters 64 = .ok (.aload_n 3, 1) := wn_at gdX10_letters_64 0 rfl
theorem dX10_letters_65 : decode cX10_letters 65 = .ok (.getfield 296, 3) := wn_at gdX10_letters_64 1 rfl
theorem dX10_letters_68 : decode cX10_letters 68 = .ok (.iload_n 1, 1) := wn_at gdX10_letters_64 2 rfl
theorem dX10_letters_69 : decode cX10_letters 69 = .ok (.iaload, 1) := wn_at gdX10_letters_64 3 rfl
theorem dX10_letters_70 : decode cX10_letters 70 = .ok (.ireturn, 1) := wn_at gdX10_letters_64 4 rfl
theorem dX10_letters_71 : decode cX10_letters 71 = .ok (.aload_n 3, 1) := wn_at gdX10_letters_64 5 rfl
theorem dX10_letters_72 : decode cX10_letters 72 = .ok (.getfield 299, 3) := wn_at gdX10_letters_64 6 rfl
theorem dX10_letters_75 : decode cX10_letters 75 = .ok (.iload_n 1, 1) := wn_at gdX10_letters_64 7 rfl
theorem dX10_letters_76 : decode cX10_letters 76 = .ok (.iaload, 1) := wn_at gdX10_letters_64 8 rfl
theorem dX10_letters_77 : decode cX10_letters 77 = .ok (.ireturn, 1) := wn_at gdX10_letters_64 9 rfl
theorem gdX10_letters_78 : ∀ e ∈ ([(78, .aload_n 3, 1), (79, .getfield 302, 3), (82, .iload_n 1, 1), (83, .iaload, 1), (84, .ireturn, 1), (85, .aload_n 3, 1), (86, .getfield 305, 3), (89, .iload_n 1, 1), (90, .iaload, 1), (91, .ireturn, 1)] : List (Nat × Instr × Nat)), decode cX10_letters e.1 = .ok e.2 := wn_all _ 78 (by decide +kernel)
theorem dX10_letters_78 : decode cX10_letters 78 = .ok (.aload_n 3, 1) := wn_at gdX10_letters_78 0 rfl
theorem dX10_letters_79 : decode cX10_letters 79 = .ok (.getfield 302, 3) := wn_at gdX10_letters_78 1 rfl
theorem dX10_letters_82 : decode cX10_letters 82 = .ok (.iload_n 1, 1) := wn_at gdX10_letters_78 2 rfl
theorem dX10_letters_83 : decode cX10_letters 83 = .ok (.iaload, 1) := wn_at gdX10_letters_78 3 rfl
theorem dX10_letters_84 : decode cX10_letters 84 = .ok (.ireturn, 1) := wn_at gdX10_letters_78 4 rfl
theorem dX10_letters_85 : decode cX10_letters 85 = .ok (.aload_n 3, 1) := wn_at gdX10_letters_78 5 rfl
theorem dX10_letters_86 : decode cX10_letters 86 = .ok (.getfield 305, 3) := wn_at gdX10_letters_78 6 rfl
theorem dX10_letters_89 : decode cX10_letters 89 = .ok (.iload_n 1, 1) := wn_at gdX10_letters_78 7 rfl
theorem dX10_letters_90 : decode cX10_letters 90 = .ok (.iaload, 1) := wn_at gdX10_letters_78 8 rfl
theorem dX10_letters_91 : decode cX10_letters 91 = .ok (.ireturn, 1) := wn_at gdX10_letters_78 9 rfl
theorem gdX10_letters_92 : ∀ e ∈ ([(92, .aload_n 3, 1), (93, .aload_n 0, 1), (94, .getfield 19, 3), (97, .getfield 102, 3), (100, .iload_n 1, 1), (101, .invokevirtual 308, 3), (104, .ifCond .eq 7, 3), (107, .iconst 1, 1), (108, .goto 4, 3), (111, .iconst 0, 1)] : List (Nat × Instr × Nat)), decode cX10_letters e.1 = .ok e.2 := wn_all _ 92 (by decide +kernel)
theorem dX10_letters_92 : decode cX10_letters 92 = .ok (.aload_n 3, 1) := wn_at gdX10_letters_92 0 rfl
theorem dX10_letters_93 : decode cX10_letters 93 = .ok (.aload_n 0, 1) := wn_at gdX10_letters_92 1 rfl
theorem dX10_letters_94 : decode cX10_letters 94 = .ok (.getfield 19, 3) := wn_at gdX10_letters_92 2 rfl
theorem dX10_letters_97 : decode cX10_letters 97 = .ok (.getfield 102, 3) := wn_at gdX10_letters_92 3 rfl
theorem dX10_letters_100 : decode cX10_letters 100 = .ok (.iload_n 1, 1) := wn_at gdX10_letters_92 4 rfl
theorem dX10_letters_101 : decode cX10_letters 101 = .ok (.invokevirtual 308, 3) := wn_at gdX10_letters_92 5 rfl
theorem dX10_letters_104 : decode cX10_letters 104 = .ok (.ifCond .eq 7, 3) := wn_at gdX10_letters_92 6 rfl
theorem dX10_letters_107 : decode cX10_letters 107 = .ok (.iconst 1, 1) := wn_at gdX10_letters_92 7 rfl
theorem dX10_letters_108 : decode cX10_letters 108 = .ok (.goto 4, 3) := wn_at gdX10_letters_92 8 rfl
theorem dX10_letters_111 : decode cX10_letters 111 = .ok (.iconst 0, 1) := wn_at gdX10_letters_92 9 rfl
theorem gdX10_letters_112 : ∀ e ∈ ([(112, .ireturn, 1)] : List (Nat × Instr × Nat)), decode cX10_letters e.1 = .ok e.2 := wn_all _ 112 (by decide +kernel)
theorem dX10_letters_112 : decode cX10_letters 112 = .ok (.ireturn, 1) := wn_at gdX10_letters_112 0 rfl
theorem gdX10_crossed_0 : ∀ e ∈ ([(0, .iconst 0, 1), (1, .istore_n 1, 1), (2, .iconst 0, 1), (3, .istore_n 2, 1), (4, .iload_n 2, 1), (5, .aload_n 0, 1), (6, .getfield 19, 3), (9, .getfield 115, 3), (12, .getfield 119, 3), (15, .if_icmp .ge 56, 3)] : List (Nat × Instr × Nat)), decode cX10_crossed e.1 = .ok e.2 := wn_all _ 0 (by decide +kernel)
theorem dX10_crossed_0 : decode cX10_crossed 0 = .ok (.iconst 0, 1) := wn_at gdX10_crossed_0 0 rfl
theorem dX10_crossed_1 : decode cX10_crossed 1 = .ok (.istore_n 1, 1) := wn_at gdX10_crossed_0 1 rfl
theorem dX10_crossed_2 : decode cX10_crossed 2 = .ok (.iconst 0, 1) := wn_at gdX10_crossed_0 2 rfl
theorem dX10_crossed_3 : decode cX10_crossed 3 = .ok (.istore_n 2, 1) := wn_at gdX10_crossed_0 3 rfl
theorem dX10_crossed_4 : decode cX10_crossed 4 = .ok (.iload_n 2, 1) := wn_at gdX10_crossed_0 4 rfl
theorem dX10_crossed_5 : decode cX10_crossed 5 = .ok (.aload_n 0, 1) := wn_at gdX10_crossed_0 5 rfl
theorem dX10_crossed_6 : decode cX10_crossed 6 = .ok (.getfield 19, 3) := wn_at gdX10_crossed_0 6 rfl
theorem dX10_crossed_9 : decode cX10_crossed 9 = .ok (.getfield 115, 3) := wn_at gdX10_crossed_0 7 rfl
theorem dX10_crossed_12 : decode cX10_crossed 12 = .ok (.getfield 119, 3) := wn_at gdX10_crossed_0 8 rfl
theorem dX10_crossed_15 : decode cX10_crossed 15 = .ok (.if_icmp .ge 56, 3) := wn_at gdX10_crossed_0 9 rfl
theorem gdX10_crossed_18 : ∀ e ∈ ([(18, .iconst 0, 1), (19, .istore_n 3, 1), (20, .iload_n 3, 1), (21, .aload_n 0, 1), (22, .getfield 19, 3), (25, .getfield 115, 3), (28, .getfield 119, 3), (31, .if_icmp .ge 34, 3), (34, .aload_n 0, 1), (35, .getfield 19, 3)] : List (Nat × Instr × Nat)), decode cX10_crossed e.1 = .ok e.2 := wn_all _ 18 (by decide +kernel)
theorem dX10_crossed_18 : decode cX10_crossed 18 = .ok (.iconst 0, 1) := wn_at gdX10_crossed_18 0 rfl
theorem dX10_crossed_19 : decode cX10_crossed 19 = .ok (.istore_n 3, 1) := wn_at gdX10_crossed_18 1 rfl
theorem dX10_crossed_20 : decode cX10_crossed 20 = .ok (.iload_n 3, 1) := wn_at gdX10_crossed_18 2 rfl
theorem dX10_crossed_21 : decode cX10_crossed 21 = .ok (.aload_n 0, 1) := wn_at gdX10_crossed_18 3 rfl
theorem dX10_crossed_22 : decode cX10_crossed 22 = .ok (.getfield 19, 3) := wn_at gdX10_crossed_18 4 rfl
theorem dX10_crossed_25 : decode cX10_crossed 25 = .ok (.getfield 115, 3) := wn_at gdX10_crossed_18 5 rfl
theorem dX10_crossed_28 : decode cX10_crossed 28 = .ok (.getfield 119, 3) := wn_at gdX10_crossed_18 6 rfl
theorem dX10_crossed_31 : decode cX10_crossed 31 = .ok (.if_icmp .ge 34, 3) := wn_at gdX10_crossed_18 7 rfl
theorem dX10_crossed_34 : decode cX10_crossed 34 = .ok (.aload_n 0, 1) := wn_at gdX10_crossed_18 8 rfl
theorem dX10_crossed_35 : decode cX10_crossed 35 = .ok (.getfield 19, 3) := wn_at gdX10_crossed_18 9 rfl
theorem gdX10_crossed_38 : ∀ e ∈ ([(38, .getfield 115, 3), (41, .aload_n 0, 1), (42, .getfield 19, 3), (45, .getfield 102, 3), (48, .iload_n 2, 1), (49, .iload_n 3, 1), (50, .invokevirtual 312, 3), (53, .ifCond .eq 6, 3), (56, .iinc 1 1, 3), (59, .iinc 3 1, 3)] : List (Nat × Instr × Nat)), decode cX10_crossed e.1 = .ok e.2 := wn_all _ 38 (by decide +kernel)
theorem dX10_crossed_38 : decode cX10_crossed 38 = .ok (.getfield 115, 3) := wn_at gdX10_crossed_38 0 rfl
theorem dX10_crossed_41 : decode cX10_crossed 41 = .ok (.aload_n 0, 1) := wn_at gdX10_crossed_38 1 rfl
theorem dX10_crossed_42 : decode cX10_crossed 42 = .ok (.getfield 19, 3) := wn_at gdX10_crossed_38 2 rfl
theorem dX10_crossed_45 : decode cX10_crossed 45 = .ok (.getfield 102, 3) := wn_at gdX10_crossed_38 3 rfl
theorem dX10_crossed_48 : decode cX10_crossed 48 = .ok (.iload_n 2, 1) := wn_at gdX10_crossed_38 4 rfl
theorem dX10_crossed_49 : decode cX10_crossed 49 = .ok (.iload_n 3, 1) := wn_at gdX10_crossed_38 5 rfl
theorem dX10_crossed_50 : decode cX10_crossed 50 = .ok (.invokevirtual 312, 3) := wn_at gdX10_crossed_38 6 rfl
theorem dX10_crossed_53 : decode cX10_crossed 53 = .ok (.ifCond .eq 6, 3) := wn_at gdX10_crossed_38 7 rfl
theorem dX10_crossed_56 : decode cX10_crossed 56 = .ok (.iinc 1 1, 3) := wn_at gdX10_crossed_38 8 rfl
theorem dX10_crossed_59 : decode cX10_crossed 59 = .ok (.iinc 3 1, 3) := wn_at gdX10_crossed_38 9 rfl
theorem gdX10_crossed_62 : ∀ e ∈ ([(62, .goto (-42), 3), (65, .iinc 2 1, 3), (68, .goto (-64), 3), (71, .iload_n 1, 1), (72, .ireturn, 1)] : List (Nat × Instr × Nat)), decode cX10_crossed e.1 = .ok e.2 := wn_all _ 62 (by decide +kernel)
theorem dX10_crossed_62 : decode cX10_crossed 62 = .ok (.goto (-42), 3) := wn_at gdX10_crossed_62 0 rfl
theorem dX10_crossed_65 : decode cX10_crossed 65 = .ok (.iinc 2 1, 3) := wn_at gdX10_crossed_62 1 rfl
theorem dX10_crossed_68 : decode cX10_crossed 68 = .ok (.goto (-64), 3) := wn_at gdX10_crossed_62 2 rfl
theorem dX10_crossed_71 : decode cX10_crossed 71 = .ok (.iload_n 1, 1) := wn_at gdX10_crossed_62 3 rfl
theorem dX10_crossed_72 : decode cX10_crossed 72 = .ok (.ireturn, 1) := wn_at gdX10_crossed_62 4 rfl
theorem gdX10_order_0 : ∀ e ∈ ([(0, .iload_n 1, 1), (1, .iconst 0, 1), (2, .aload_n 0, 1), (3, .getfield 19, 3), (6, .getfield 115, 3), (9, .getfield 119, 3), (12, .iconst 1, 1), (13, .isub, 1), (14, .invokestatic 91, 3), (17, .ifCond .ne 5, 3)] : List (Nat × Instr × Nat)), decode cX10_order e.1 = .ok e.2 := wn_all _ 0 (by decide +kernel)
theorem dX10_order_0 : decode cX10_order 0 = .ok (.iload_n 1, 1) := wn_at gdX10_order_0 0 rfl
theorem dX10_order_1 : decode cX10_order 1 = .ok (.iconst 0, 1) := wn_at gdX10_order_0 1 rfl
theorem dX10_order_2 : decode cX10_order 2 = .ok (.aload_n 0, 1) := wn_at gdX10_order_0 2 rfl
theorem dX10_order_3 : decode cX10_order 3 = .ok (.getfield 19, 3) := wn_at gdX10_order_0 3 rfl
theorem dX10_order_6 : decode cX10_order 6 = .ok (.getfield 115, 3) := wn_at gdX10_order_0 4 rfl
theorem dX10_order_9 : decode cX10_order 9 = .ok (.getfield 119, 3) := wn_at gdX10_order_0 5 rfl
theorem dX10_order_12 : decode cX10_order 12 = .ok (.iconst 1, 1) := wn_at gdX10_order_0 6 rfl
theorem dX10_order_13 : decode cX10_order 13 = .ok (.isub, 1) := wn_at gdX10_order_0 7 rfl
theorem dX10_order_14 : decode cX10_order 14 = .ok (.invokestatic 91, 3) := wn_at gdX10_order_0 8 rfl
theorem dX10_order_17 : decode cX10_order 17 = .ok (.ifCond .ne 5, 3) := wn_at gdX10_order_0 9 rfl
theorem gdX10_order_20 : ∀ e ∈ ([(20, .iconst (-1), 1), (21, .ireturn, 1), (22, .iconst 0, 1), (23, .istore_n 2, 1), (24, .iload_n 2, 1), (25, .aload_n 0, 1), (26, .getfield 19, 3), (29, .getfield 115, 3), (32, .getfield 119, 3), (35, .if_icmp .ge 26, 3)] : List (Nat × Instr × Nat)), decode cX10_order e.1 = .ok e.2 := wn_all _ 20 (by decide +kernel)
theorem dX10_order_20 : decode cX10_order 20 = .ok (.iconst (-1), 1) := wn_at gdX10_order_20 0 rfl
theorem dX10_order_21 : decode cX10_order 21 = .ok (.ireturn, 1) := wn_at gdX10_order_20 1 rfl
theorem dX10_order_22 : decode cX10_order 22 = .ok (.iconst 0, 1) := wn_at gdX10_order_20 2 rfl
theorem dX10_order_23 : decode cX10_order 23 = .ok (.istore_n 2, 1) := wn_at gdX10_order_20 3 rfl
theorem dX10_order_24 : decode cX10_order 24 = .ok (.iload_n 2, 1) := wn_at gdX10_order_20 4 rfl
theorem dX10_order_25 : decode cX10_order 25 = .ok (.aload_n 0, 1) := wn_at gdX10_order_20 5 rfl
theorem dX10_order_26 : decode cX10_order 26 = .ok (.getfield 19, 3) := wn_at gdX10_order_20 6 rfl
theorem dX10_order_29 : decode cX10_order 29 = .ok (.getfield 115, 3) := wn_at gdX10_order_20 7 rfl
theorem dX10_order_32 : decode cX10_order 32 = .ok (.getfield 119, 3) := wn_at gdX10_order_20 8 rfl
theorem dX10_order_35 : decode cX10_order 35 = .ok (.if_icmp .ge 26, 3) := wn_at gdX10_order_20 9 rfl
theorem gdX10_order_38 : ∀ e ∈ ([(38, .aload_n 0, 1), (39, .getfield 19, 3), (42, .getfield 115, 3), (45, .iload_n 2, 1), (46, .invokevirtual 315, 3), (49, .iload_n 1, 1), (50, .if_icmp .ne 5, 3), (53, .iload_n 2, 1), (54, .ireturn, 1), (55, .iinc 2 1, 3)] : List (Nat × Instr × Nat)), decode cX10_order e.1 = .ok e.2 := wn_all _ 38 (by decide +kernel)
theorem dX10_order_38 : decode cX10_order 38 = .ok (.aload_n 0, 1) := wn_at gdX10_order_38 0 rfl
theorem dX10_order_39 : decode cX10_order 39 = .ok (.getfield 19, 3) := wn_at gdX10_order_38 1 rfl
theorem dX10_order_42 : decode cX10_order 42 = .ok (.getfield 115, 3) := wn_at gdX10_order_38 2 rfl
theorem dX10_order_45 : decode cX10_order 45 = .ok (.iload_n 2, 1) := wn_at gdX10_order_38 3 rfl
theorem dX10_order_46 : decode cX10_order 46 = .ok (.invokevirtual 315, 3) := wn_at gdX10_order_38 4 rfl
theorem dX10_order_49 : decode cX10_order 49 = .ok (.iload_n 1, 1) := wn_at gdX10_order_38 5 rfl
theorem dX10_order_50 : decode cX10_order 50 = .ok (.if_icmp .ne 5, 3) := wn_at gdX10_order_38 6 rfl
theorem dX10_order_53 : decode cX10_order 53 = .ok (.iload_n 2, 1) := wn_at gdX10_order_38 7 rfl
theorem dX10_order_54 : decode cX10_order 54 = .ok (.ireturn, 1) := wn_at gdX10_order_38 8 rfl
theorem dX10_order_55 : decode cX10_order 55 = .ok (.iinc 2 1, 3) := wn_at gdX10_order_38 9 rfl
theorem gdX10_order_58 : ∀ e ∈ ([(58, .goto (-34), 3), (61, .iconst (-1), 1), (62, .ireturn, 1)] : List (Nat × Instr × Nat)), decode cX10_order e.1 = .ok e.2 := wn_all _ 58 (by decide +kernel)
theorem dX10_order_58 : decode cX10_order 58 = .ok (.goto (-34), 3) := wn_at gdX10_order_58 0 rfl
theorem dX10_order_61 : decode cX10_order 61 = .ok (.iconst (-1), 1) := wn_at gdX10_order_58 1 rfl
theorem dX10_order_62 : decode cX10_order 62 = .ok (.ireturn, 1) := wn_at gdX10_order_58 2 rfl
theorem gdX10_seed_0 : ∀ e ∈ ([(0, .iload_n 1, 1), (1, .ifCond .ge 5, 3), (4, .iconst (-1), 1), (5, .ireturn, 1), (6, .aload_n 0, 1), (7, .getfield 19, 3), (10, .getfield 318, 3), (13, .istore_n 2, 1), (14, .aload_n 0, 1), (15, .getfield 19, 3)] : List (Nat × Instr × Nat)), decode cX10_seed e.1 = .ok e.2 := wn_all _ 0 (by decide +kernel)
theorem dX10_seed_0 : decode cX10_seed 0 = .ok (.iload_n 1, 1) := wn_at gdX10_seed_0 0 rfl
theorem dX10_seed_1 : decode cX10_seed 1 = .ok (.ifCond .ge 5, 3) := wn_at gdX10_seed_0 1 rfl
theorem dX10_seed_4 : decode cX10_seed 4 = .ok (.iconst (-1), 1) := wn_at gdX10_seed_0 2 rfl
theorem dX10_seed_5 : decode cX10_seed 5 = .ok (.ireturn, 1) := wn_at gdX10_seed_0 3 rfl
theorem dX10_seed_6 : decode cX10_seed 6 = .ok (.aload_n 0, 1) := wn_at gdX10_seed_0 4 rfl
theorem dX10_seed_7 : decode cX10_seed 7 = .ok (.getfield 19, 3) := wn_at gdX10_seed_0 5 rfl
theorem dX10_seed_10 : decode cX10_seed 10 = .ok (.getfield 318, 3) := wn_at gdX10_seed_0 6 rfl
theorem dX10_seed_13 : decode cX10_seed 13 = .ok (.istore_n 2, 1) := wn_at gdX10_seed_0 7 rfl
theorem dX10_seed_14 : decode cX10_seed 14 = .ok (.aload_n 0, 1) := wn_at gdX10_seed_0 8 rfl
theorem dX10_seed_15 : decode cX10_seed 15 = .ok (.getfield 19, 3) := wn_at gdX10_seed_0 9 rfl
theorem gdX10_seed_18 : ∀ e ∈ ([(18, .iload_n 1, 1), (19, .putfield 318, 3), (22, .iload_n 2, 1), (23, .ireturn, 1)] : List (Nat × Instr × Nat)), decode cX10_seed e.1 = .ok e.2 := wn_all _ 18 (by decide +kernel)
theorem dX10_seed_18 : decode cX10_seed 18 = .ok (.iload_n 1, 1) := wn_at gdX10_seed_18 0 rfl
theorem dX10_seed_19 : decode cX10_seed 19 = .ok (.putfield 318, 3) := wn_at gdX10_seed_18 1 rfl
theorem dX10_seed_22 : decode cX10_seed 22 = .ok (.iload_n 2, 1) := wn_at gdX10_seed_18 2 rfl
theorem dX10_seed_23 : decode cX10_seed 23 = .ok (.ireturn, 1) := wn_at gdX10_seed_18 3 rfl
theorem gdX10_meetings_0 : ∀ e ∈ ([(0, .aload_n 0, 1), (1, .iload_n 1, 1), (2, .invokevirtual 167, 3), (5, .ifCond .eq 26, 3), (8, .aload_n 0, 1), (9, .iload_n 2, 1), (10, .invokevirtual 167, 3), (13, .ifCond .eq 18, 3), (16, .iload_n 1, 1), (17, .iload_n 2, 1)] : List (Nat × Instr × Nat)), decode cX10_meetings e.1 = .ok e.2 := wn_all _ 0 (by decide +kernel)
theorem dX10_meetings_0 : decode cX10_meetings 0 = .ok (.aload_n 0, 1) := wn_at gdX10_meetings_0 0 rfl
theorem dX10_meetings_1 : decode cX10_meetings 1 = .ok (.iload_n 1, 1) := wn_at gdX10_meetings_0 1 rfl
theorem dX10_meetings_2 : decode cX10_meetings 2 = .ok (.invokevirtual 167, 3) := wn_at gdX10_meetings_0 2 rfl
theorem dX10_meetings_5 : decode cX10_meetings 5 = .ok (.ifCond .eq 26, 3) := wn_at gdX10_meetings_0 3 rfl
theorem dX10_meetings_8 : decode cX10_meetings 8 = .ok (.aload_n 0, 1) := wn_at gdX10_meetings_0 4 rfl
theorem dX10_meetings_9 : decode cX10_meetings 9 = .ok (.iload_n 2, 1) := wn_at gdX10_meetings_0 5 rfl
theorem dX10_meetings_10 : decode cX10_meetings 10 = .ok (.invokevirtual 167, 3) := wn_at gdX10_meetings_0 6 rfl
theorem dX10_meetings_13 : decode cX10_meetings 13 = .ok (.ifCond .eq 18, 3) := wn_at gdX10_meetings_0 7 rfl
theorem dX10_meetings_16 : decode cX10_meetings 16 = .ok (.iload_n 1, 1) := wn_at gdX10_meetings_0 8 rfl
theorem dX10_meetings_17 : decode cX10_meetings 17 = .ok (.iload_n 2, 1) := wn_at gdX10_meetings_0 9 rfl
theorem gdX10_meetings_18 : ∀ e ∈ ([(18, .if_icmp .eq 13, 3), (21, .iload 5, 2), (23, .iconst 0, 1), (24, .iconst 1, 1), (25, .invokestatic 91, 3), (28, .ifCond .ne 5, 3), (31, .iconst (-1), 1), (32, .ireturn, 1), (33, .iload_n 3, 1), (34, .iconst 1, 1)] : List (Nat × Instr × Nat)), decode cX10_meetings e.1 = .ok e.2 := wn_all _ 18 (by decide +kernel)
theorem dX10_meetings_18 : decode cX10_meetings 18 = .ok (.if_icmp .eq 13, 3) := wn_at gdX10_meetings_18 0 rfl
theorem dX10_meetings_21 : decode cX10_meetings 21 = .ok (.iload 5, 2) := wn_at gdX10_meetings_18 1 rfl
theorem dX10_meetings_23 : decode cX10_meetings 23 = .ok (.iconst 0, 1) := wn_at gdX10_meetings_18 2 rfl
theorem dX10_meetings_24 : decode cX10_meetings 24 = .ok (.iconst 1, 1) := wn_at gdX10_meetings_18 3 rfl
theorem dX10_meetings_25 : decode cX10_meetings 25 = .ok (.invokestatic 91, 3) := wn_at gdX10_meetings_18 4 rfl
theorem dX10_meetings_28 : decode cX10_meetings 28 = .ok (.ifCond .ne 5, 3) := wn_at gdX10_meetings_18 5 rfl
theorem dX10_meetings_31 : decode cX10_meetings 31 = .ok (.iconst (-1), 1) := wn_at gdX10_meetings_18 6 rfl
theorem dX10_meetings_32 : decode cX10_meetings 32 = .ok (.ireturn, 1) := wn_at gdX10_meetings_18 7 rfl
theorem dX10_meetings_33 : decode cX10_meetings 33 = .ok (.iload_n 3, 1) := wn_at gdX10_meetings_18 8 rfl
theorem dX10_meetings_34 : decode cX10_meetings 34 = .ok (.iconst 1, 1) := wn_at gdX10_meetings_18 9 rfl
theorem gdX10_meetings_35 : ∀ e ∈ ([(35, .bipush 20, 2), (37, .invokestatic 91, 3), (40, .ifCond .eq 15, 3), (43, .iload 4, 2), (45, .iconst 1, 1), (46, .sipush 200, 3), (49, .invokestatic 91, 3), (52, .ifCond .ne 5, 3), (55, .iconst (-1), 1), (56, .ireturn, 1)] : List (Nat × Instr × Nat)), decode cX10_meetings e.1 = .ok e.2 := wn_all _ 35 (by decide +kernel)
theorem dX10_meetings_35 : decode cX10_meetings 35 = .ok (.bipush 20, 2) := wn_at gdX10_meetings_35 0 rfl
theorem dX10_meetings_37 : decode cX10_meetings 37 = .ok (.invokestatic 91, 3) := wn_at gdX10_meetings_35 1 rfl
theorem dX10_meetings_40 : decode cX10_meetings 40 = .ok (.ifCond .eq 15, 3) := wn_at gdX10_meetings_35 2 rfl
theorem dX10_meetings_43 : decode cX10_meetings 43 = .ok (.iload 4, 2) := wn_at gdX10_meetings_35 3 rfl
theorem dX10_meetings_45 : decode cX10_meetings 45 = .ok (.iconst 1, 1) := wn_at gdX10_meetings_35 4 rfl
theorem dX10_meetings_46 : decode cX10_meetings 46 = .ok (.sipush 200, 3) := wn_at gdX10_meetings_35 5 rfl
theorem dX10_meetings_49 : decode cX10_meetings 49 = .ok (.invokestatic 91, 3) := wn_at gdX10_meetings_35 6 rfl
theorem dX10_meetings_52 : decode cX10_meetings 52 = .ok (.ifCond .ne 5, 3) := wn_at gdX10_meetings_35 7 rfl
theorem dX10_meetings_55 : decode cX10_meetings 55 = .ok (.iconst (-1), 1) := wn_at gdX10_meetings_35 8 rfl
theorem dX10_meetings_56 : decode cX10_meetings 56 = .ok (.ireturn, 1) := wn_at gdX10_meetings_35 9 rfl
theorem gdX10_meetings_57 : ∀ e ∈ ([(57, .iconst 0, 1), (58, .istore 6, 2), (60, .iconst 0, 1), (61, .istore 7, 2), (63, .iconst 0, 1), (64, .istore 8, 2), (66, .iload 8, 2), (68, .iload_n 3, 1), (69, .if_icmp .ge 41, 3), (72, .aload_n 0, 1)] : List (Nat × Instr × Nat)), decode cX10_meetings e.1 = .ok e.2 := wn_all _ 57 (by decide +kernel)
theorem dX10_meetings_57 : decode cX10_meetings 57 = .ok (.iconst 0, 1) := wn_at gdX10_meetings_57 0 rfl
theorem dX10_meetings_58 : decode cX10_meetings 58 = .ok (.istore 6, 2) := wn_at gdX10_meetings_57 1 rfl
theorem dX10_meetings_60 : decode cX10_meetings 60 = .ok (.iconst 0, 1) := wn_at gdX10_meetings_57 2 rfl
theorem dX10_meetings_61 : decode cX10_meetings 61 = .ok (.istore 7, 2) := wn_at gdX10_meetings_57 3 rfl
theorem dX10_meetings_63 : decode cX10_meetings 63 = .ok (.iconst 0, 1) := wn_at gdX10_meetings_57 4 rfl
theorem dX10_meetings_64 : decode cX10_meetings 64 = .ok (.istore 8, 2) := wn_at gdX10_meetings_57 5 rfl
theorem dX10_meetings_66 : decode cX10_meetings 66 = .ok (.iload 8, 2) := wn_at gdX10_meetings_57 6 rfl
theorem dX10_meetings_68 : decode cX10_meetings 68 = .ok (.iload_n 3, 1) := wn_at gdX10_meetings_57 7 rfl
theorem dX10_meetings_69 : decode cX10_meetings 69 = .ok (.if_icmp .ge 41, 3) := wn_at gdX10_meetings_57 8 rfl
theorem dX10_meetings_72 : decode cX10_meetings 72 = .ok (.aload_n 0, 1) := wn_at gdX10_meetings_57 9 rfl
theorem gdX10_meetings_73 : ∀ e ∈ ([(73, .iload_n 1, 1), (74, .iload_n 2, 1), (75, .iload 4, 2), (77, .invokevirtual 321, 3), (80, .istore 9, 2), (82, .iload 6, 2), (84, .iload 9, 2), (86, .iadd, 1), (87, .istore 6, 2), (89, .iload 7, 2)] : List (Nat × Instr × Nat)), decode cX10_meetings e.1 = .ok e.2 := wn_all _ 73 (by decide +kernel)
theorem dX10_meetings_73 : decode cX10_meetings 73 = .ok (.iload_n 1, 1) := wn_at gdX10_meetings_73 0 rfl
theorem dX10_meetings_74 : decode cX10_meetings 74 = .ok (.iload_n 2, 1) := wn_at gdX10_meetings_73 1 rfl
theorem dX10_meetings_75 : decode cX10_meetings 75 = .ok (.iload 4, 2) := wn_at gdX10_meetings_73 2 rfl
theorem dX10_meetings_77 : decode cX10_meetings 77 = .ok (.invokevirtual 321, 3) := wn_at gdX10_meetings_73 3 rfl
theorem dX10_meetings_80 : decode cX10_meetings 80 = .ok (.istore 9, 2) := wn_at gdX10_meetings_73 4 rfl
theorem dX10_meetings_82 : decode cX10_meetings 82 = .ok (.iload 6, 2) := wn_at gdX10_meetings_73 5 rfl
theorem dX10_meetings_84 : decode cX10_meetings 84 = .ok (.iload 9, 2) := wn_at gdX10_meetings_73 6 rfl
theorem dX10_meetings_86 : decode cX10_meetings 86 = .ok (.iadd, 1) := wn_at gdX10_meetings_73 7 rfl
theorem dX10_meetings_87 : decode cX10_meetings 87 = .ok (.istore 6, 2) := wn_at gdX10_meetings_73 8 rfl
theorem dX10_meetings_89 : decode cX10_meetings 89 = .ok (.iload 7, 2) := wn_at gdX10_meetings_73 9 rfl
theorem gdX10_meetings_91 : ∀ e ∈ ([(91, .iload 9, 2), (93, .ifCond .le 7, 3), (96, .iconst 1, 1), (97, .goto 4, 3), (100, .iconst 0, 1), (101, .iadd, 1), (102, .istore 7, 2), (104, .iinc 8 1, 3), (107, .goto (-41), 3), (110, .iload 5, 2)] : List (Nat × Instr × Nat)), decode cX10_meetings e.1 = .ok e.2 := wn_all _ 91 (by decide +kernel)
theorem dX10_meetings_91 : decode cX10_meetings 91 = .ok (.iload 9, 2) := wn_at gdX10_meetings_91 0 rfl
theorem dX10_meetings_93 : decode cX10_meetings 93 = .ok (.ifCond .le 7, 3) := wn_at gdX10_meetings_91 1 rfl
theorem dX10_meetings_96 : decode cX10_meetings 96 = .ok (.iconst 1, 1) := wn_at gdX10_meetings_91 2 rfl
theorem dX10_meetings_97 : decode cX10_meetings 97 = .ok (.goto 4, 3) := wn_at gdX10_meetings_91 3 rfl
theorem dX10_meetings_100 : decode cX10_meetings 100 = .ok (.iconst 0, 1) := wn_at gdX10_meetings_91 4 rfl
theorem dX10_meetings_101 : decode cX10_meetings 101 = .ok (.iadd, 1) := wn_at gdX10_meetings_91 5 rfl
theorem dX10_meetings_102 : decode cX10_meetings 102 = .ok (.istore 7, 2) := wn_at gdX10_meetings_91 6 rfl
theorem dX10_meetings_104 : decode cX10_meetings 104 = .ok (.iinc 8 1, 3) := wn_at gdX10_meetings_91 7 rfl
theorem dX10_meetings_107 : decode cX10_meetings 107 = .ok (.goto (-41), 3) := wn_at gdX10_meetings_91 8 rfl
theorem dX10_meetings_110 : decode cX10_meetings 110 = .ok (.iload 5, 2) := wn_at gdX10_meetings_91 9 rfl
theorem gdX10_meetings_112 : ∀ e ∈ ([(112, .ifCond .ne 8, 3), (115, .iload 6, 2), (117, .goto 5, 3), (120, .iload 7, 2), (122, .ireturn, 1)] : List (Nat × Instr × Nat)), decode cX10_meetings e.1 = .ok e.2 := wn_all _ 112 (by decide +kernel)
theorem dX10_meetings_112 : decode cX10_meetings 112 = .ok (.ifCond .ne 8, 3) := wn_at gdX10_meetings_112 0 rfl
theorem dX10_meetings_115 : decode cX10_meetings 115 = .ok (.iload 6, 2) := wn_at gdX10_meetings_112 1 rfl
theorem dX10_meetings_117 : decode cX10_meetings 117 = .ok (.goto 5, 3) := wn_at gdX10_meetings_112 2 rfl
theorem dX10_meetings_120 : decode cX10_meetings 120 = .ok (.iload 7, 2) := wn_at gdX10_meetings_112 3 rfl
theorem dX10_meetings_122 : decode cX10_meetings 122 = .ok (.ireturn, 1) := wn_at gdX10_meetings_112 4 rfl
theorem gdX10_count_0 : ∀ e ∈ ([(0, .iload_n 1, 1)] : List (Nat × Instr × Nat)), decode cX10_count e.1 = .ok e.2 := wn_all _ 0 (by decide +kernel)
theorem dX10_count_0 : decode cX10_count 0 = .ok (.iload_n 1, 1) := wn_at gdX10_count_0 0 rfl
theorem dX10_count_1 : decode cX10_count 1 = .ok (.tableswitch 160 0 9 #[55, 66, 77, 88, 93, 104, 115, 133, 144, 152], 55) := by decide +kernel
theorem gdX10_count_56 : ∀ e ∈ ([(56, .aload_n 0, 1), (57, .getfield 19, 3), (60, .getfield 102, 3), (63, .getfield 122, 3), (66, .ireturn, 1), (67, .aload_n 0, 1), (68, .getfield 19, 3), (71, .getfield 102, 3), (74, .getfield 151, 3), (77, .ireturn, 1)] : List (Nat × Instr × Nat)), decode cX10_count e.1 = .ok e.2 := wn_all _ 56 (by decide +kernel)
theorem dX10_count_56 : decode cX10_count 56 = .ok (.aload_n 0, 1) := wn_at gdX10_count_56 0 rfl
theorem dX10_count_57 : decode cX10_count 57 = .ok (.getfield 19, 3) := wn_at gdX10_count_56 1 rfl
theorem dX10_count_60 : decode cX10_count 60 = .ok (.getfield 102, 3) := wn_at gdX10_count_56 2 rfl
theorem dX10_count_63 : decode cX10_count 63 = .ok (.getfield 122, 3) := wn_at gdX10_count_56 3 rfl
theorem dX10_count_66 : decode cX10_count 66 = .ok (.ireturn, 1) := wn_at gdX10_count_56 4 rfl
theorem dX10_count_67 : decode cX10_count 67 = .ok (.aload_n 0, 1) := wn_at gdX10_count_56 5 rfl
theorem dX10_count_68 : decode cX10_count 68 = .ok (.getfield 19, 3) := wn_at gdX10_count_56 6 rfl
theorem dX10_count_71 : decode cX10_count 71 = .ok (.getfield 102, 3) := wn_at gdX10_count_56 7 rfl
theorem dX10_count_74 : decode cX10_count 74 = .ok (.getfield 151, 3) := wn_at gdX10_count_56 8 rfl
theorem dX10_count_77 : decode cX10_count 77 = .ok (.ireturn, 1) := wn_at gdX10_count_56 9 rfl
theorem gdX10_count_78 : ∀ e ∈ ([(78, .aload_n 0, 1), (79, .getfield 19, 3), (82, .getfield 109, 3), (85, .getfield 285, 3), (88, .ireturn, 1), (89, .aload_n 0, 1), (90, .getfield 79, 3), (93, .ireturn, 1), (94, .aload_n 0, 1), (95, .getfield 19, 3)] : List (Nat × Instr × Nat)), decode cX10_count e.1 = .ok e.2 := wn_all _ 78 (by decide +kernel)
theorem dX10_count_78 : decode cX10_count 78 = .ok (.aload_n 0, 1) := wn_at gdX10_count_78 0 rfl
theorem dX10_count_79 : decode cX10_count 79 = .ok (.getfield 19, 3) := wn_at gdX10_count_78 1 rfl
theorem dX10_count_82 : decode cX10_count 82 = .ok (.getfield 109, 3) := wn_at gdX10_count_78 2 rfl
theorem dX10_count_85 : decode cX10_count 85 = .ok (.getfield 285, 3) := wn_at gdX10_count_78 3 rfl
theorem dX10_count_88 : decode cX10_count 88 = .ok (.ireturn, 1) := wn_at gdX10_count_78 4 rfl
theorem dX10_count_89 : decode cX10_count 89 = .ok (.aload_n 0, 1) := wn_at gdX10_count_78 5 rfl
theorem dX10_count_90 : decode cX10_count 90 = .ok (.getfield 79, 3) := wn_at gdX10_count_78 6 rfl
theorem dX10_count_93 : decode cX10_count 93 = .ok (.ireturn, 1) := wn_at gdX10_count_78 7 rfl
theorem dX10_count_94 : decode cX10_count 94 = .ok (.aload_n 0, 1) := wn_at gdX10_count_78 8 rfl
theorem dX10_count_95 : decode cX10_count 95 = .ok (.getfield 19, 3) := wn_at gdX10_count_78 9 rfl
theorem gdX10_count_98 : ∀ e ∈ ([(98, .getfield 109, 3), (101, .getfield 200, 3), (104, .ireturn, 1), (105, .aload_n 0, 1), (106, .getfield 19, 3), (109, .getfield 115, 3), (112, .getfield 119, 3), (115, .ireturn, 1), (116, .aload_n 0, 1), (117, .getfield 19, 3)] : List (Nat × Instr × Nat)), decode cX10_count e.1 = .ok e.2 := wn_all _ 98 (by decide +kernel)
theorem dX10_count_98 : decode cX10_count 98 = .ok (.getfield 109, 3) := wn_at gdX10_count_98 0 rfl
theorem dX10_count_101 : decode cX10_count 101 = .ok (.getfield 200, 3) := wn_at gdX10_count_98 1 rfl
theorem dX10_count_104 : decode cX10_count 104 = .ok (.ireturn, 1) := wn_at gdX10_count_98 2 rfl
theorem dX10_count_105 : decode cX10_count 105 = .ok (.aload_n 0, 1) := wn_at gdX10_count_98 3 rfl
theorem dX10_count_106 : decode cX10_count 106 = .ok (.getfield 19, 3) := wn_at gdX10_count_98 4 rfl
theorem dX10_count_109 : decode cX10_count 109 = .ok (.getfield 115, 3) := wn_at gdX10_count_98 5 rfl
theorem dX10_count_112 : decode cX10_count 112 = .ok (.getfield 119, 3) := wn_at gdX10_count_98 6 rfl
theorem dX10_count_115 : decode cX10_count 115 = .ok (.ireturn, 1) := wn_at gdX10_count_98 7 rfl
theorem dX10_count_116 : decode cX10_count 116 = .ok (.aload_n 0, 1) := wn_at gdX10_count_98 8 rfl
theorem dX10_count_117 : decode cX10_count 117 = .ok (.getfield 19, 3) := wn_at gdX10_count_98 9 rfl
theorem gdX10_count_120 : ∀ e ∈ ([(120, .getfield 115, 3), (123, .aload_n 0, 1), (124, .getfield 19, 3), (127, .getfield 102, 3), (130, .invokevirtual 325, 3), (133, .ireturn, 1), (134, .aload_n 0, 1), (135, .getfield 19, 3), (138, .getfield 109, 3), (141, .invokevirtual 329, 3)] : List (Nat × Instr × Nat)), decode cX10_count e.1 = .ok e.2 := wn_all _ 120 (by decide +kernel)
theorem dX10_count_120 : decode cX10_count 120 = .ok (.getfield 115, 3) := wn_at gdX10_count_120 0 rfl
theorem dX10_count_123 : decode cX10_count 123 = .ok (.aload_n 0, 1) := wn_at gdX10_count_120 1 rfl
theorem dX10_count_124 : decode cX10_count 124 = .ok (.getfield 19, 3) := wn_at gdX10_count_120 2 rfl
theorem dX10_count_127 : decode cX10_count 127 = .ok (.getfield 102, 3) := wn_at gdX10_count_120 3 rfl
theorem dX10_count_130 : decode cX10_count 130 = .ok (.invokevirtual 325, 3) := wn_at gdX10_count_120 4 rfl
theorem dX10_count_133 : decode cX10_count 133 = .ok (.ireturn, 1) := wn_at gdX10_count_120 5 rfl
theorem dX10_count_134 : decode cX10_count 134 = .ok (.aload_n 0, 1) := wn_at gdX10_count_120 6 rfl
theorem dX10_count_135 : decode cX10_count 135 = .ok (.getfield 19, 3) := wn_at gdX10_count_120 7 rfl
theorem dX10_count_138 : decode cX10_count 138 = .ok (.getfield 109, 3) := wn_at gdX10_count_120 8 rfl
theorem dX10_count_141 : decode cX10_count 141 = .ok (.invokevirtual 329, 3) := wn_at gdX10_count_120 9 rfl
theorem gdX10_count_144 : ∀ e ∈ ([(144, .ireturn, 1), (145, .aload_n 0, 1), (146, .getfield 19, 3), (149, .getfield 318, 3), (152, .ireturn, 1), (153, .aload_n 0, 1), (154, .getfield 12, 3), (157, .getfield 84, 3), (160, .ireturn, 1), (161, .iconst (-1), 1)] : List (Nat × Instr × Nat)), decode cX10_count e.1 = .ok e.2 := wn_all _ 144 (by decide +kernel)
theorem dX10_count_144 : decode cX10_count 144 = .ok (.ireturn, 1) := wn_at gdX10_count_144 0 rfl
theorem dX10_count_145 : decode cX10_count 145 = .ok (.aload_n 0, 1) := wn_at gdX10_count_144 1 rfl
theorem dX10_count_146 : decode cX10_count 146 = .ok (.getfield 19, 3) := wn_at gdX10_count_144 2 rfl
theorem dX10_count_149 : decode cX10_count 149 = .ok (.getfield 318, 3) := wn_at gdX10_count_144 3 rfl
theorem dX10_count_152 : decode cX10_count 152 = .ok (.ireturn, 1) := wn_at gdX10_count_144 4 rfl
theorem dX10_count_153 : decode cX10_count 153 = .ok (.aload_n 0, 1) := wn_at gdX10_count_144 5 rfl
theorem dX10_count_154 : decode cX10_count 154 = .ok (.getfield 12, 3) := wn_at gdX10_count_144 6 rfl
theorem dX10_count_157 : decode cX10_count 157 = .ok (.getfield 84, 3) := wn_at gdX10_count_144 7 rfl
theorem dX10_count_160 : decode cX10_count 160 = .ok (.ireturn, 1) := wn_at gdX10_count_144 8 rfl
theorem dX10_count_161 : decode cX10_count 161 = .ok (.iconst (-1), 1) := wn_at gdX10_count_144 9 rfl
theorem gdX10_count_162 : ∀ e ∈ ([(162, .ireturn, 1)] : List (Nat × Instr × Nat)), decode cX10_count e.1 = .ok e.2 := wn_all _ 162 (by decide +kernel)
theorem dX10_count_162 : decode cX10_count 162 = .ok (.ireturn, 1) := wn_at gdX10_count_162 0 rfl
theorem gdX10_image_0 : ∀ e ∈ ([(0, .iload_n 1, 1), (1, .iconst 0, 1), (2, .iconst 3, 1), (3, .invokestatic 91, 3), (6, .ifCond .ne 5, 3), (9, .iconst (-1), 1), (10, .ireturn, 1), (11, .aload_n 0, 1), (12, .getfield 23, 3), (15, .iload_n 1, 1)] : List (Nat × Instr × Nat)), decode cX10_image e.1 = .ok e.2 := wn_all _ 0 (by decide +kernel)
theorem dX10_image_0 : decode cX10_image 0 = .ok (.iload_n 1, 1) := wn_at gdX10_image_0 0 rfl
theorem dX10_image_1 : decode cX10_image 1 = .ok (.iconst 0, 1) := wn_at gdX10_image_0 1 rfl
theorem dX10_image_2 : decode cX10_image 2 = .ok (.iconst 3, 1) := wn_at gdX10_image_0 2 rfl
theorem dX10_image_3 : decode cX10_image 3 = .ok (.invokestatic 91, 3) := wn_at gdX10_image_0 3 rfl
theorem dX10_image_6 : decode cX10_image 6 = .ok (.ifCond .ne 5, 3) := wn_at gdX10_image_0 4 rfl
theorem dX10_image_9 : decode cX10_image 9 = .ok (.iconst (-1), 1) := wn_at gdX10_image_0 5 rfl
theorem dX10_image_10 : decode cX10_image 10 = .ok (.ireturn, 1) := wn_at gdX10_image_0 6 rfl
theorem dX10_image_11 : decode cX10_image 11 = .ok (.aload_n 0, 1) := wn_at gdX10_image_0 7 rfl
theorem dX10_image_12 : decode cX10_image 12 = .ok (.getfield 23, 3) := wn_at gdX10_image_0 8 rfl
theorem dX10_image_15 : decode cX10_image 15 = .ok (.iload_n 1, 1) := wn_at gdX10_image_0 9 rfl
theorem gdX10_image_16 : ∀ e ∈ ([(16, .aaload, 1), (17, .aload_n 0, 1), (18, .getfield 19, 3), (21, .invokevirtual 332, 3), (24, .aload_n 0, 1), (25, .getfield 23, 3), (28, .iload_n 1, 1), (29, .aaload, 1), (30, .iconst 1, 1), (31, .putfield 335, 3)] : List (Nat × Instr × Nat)), decode cX10_image e.1 = .ok e.2 := wn_all _ 16 (by decide +kernel)
theorem dX10_image_16 : decode cX10_image 16 = .ok (.aaload, 1) := wn_at gdX10_image_16 0 rfl
theorem dX10_image_17 : decode cX10_image 17 = .ok (.aload_n 0, 1) := wn_at gdX10_image_16 1 rfl
theorem dX10_image_18 : decode cX10_image 18 = .ok (.getfield 19, 3) := wn_at gdX10_image_16 2 rfl
theorem dX10_image_21 : decode cX10_image 21 = .ok (.invokevirtual 332, 3) := wn_at gdX10_image_16 3 rfl
theorem dX10_image_24 : decode cX10_image 24 = .ok (.aload_n 0, 1) := wn_at gdX10_image_16 4 rfl
theorem dX10_image_25 : decode cX10_image 25 = .ok (.getfield 23, 3) := wn_at gdX10_image_16 5 rfl
theorem dX10_image_28 : decode cX10_image 28 = .ok (.iload_n 1, 1) := wn_at gdX10_image_16 6 rfl
theorem dX10_image_29 : decode cX10_image 29 = .ok (.aaload, 1) := wn_at gdX10_image_16 7 rfl
theorem dX10_image_30 : decode cX10_image 30 = .ok (.iconst 1, 1) := wn_at gdX10_image_16 8 rfl
theorem dX10_image_31 : decode cX10_image 31 = .ok (.putfield 335, 3) := wn_at gdX10_image_16 9 rfl
theorem gdX10_image_34 : ∀ e ∈ ([(34, .aload_n 0, 1), (35, .getfield 19, 3), (38, .getfield 109, 3), (41, .getfield 200, 3), (44, .ireturn, 1)] : List (Nat × Instr × Nat)), decode cX10_image e.1 = .ok e.2 := wn_all _ 34 (by decide +kernel)
theorem dX10_image_34 : decode cX10_image 34 = .ok (.aload_n 0, 1) := wn_at gdX10_image_34 0 rfl
theorem dX10_image_35 : decode cX10_image 35 = .ok (.getfield 19, 3) := wn_at gdX10_image_34 1 rfl
theorem dX10_image_38 : decode cX10_image 38 = .ok (.getfield 109, 3) := wn_at gdX10_image_34 2 rfl
theorem dX10_image_41 : decode cX10_image 41 = .ok (.getfield 200, 3) := wn_at gdX10_image_34 3 rfl
theorem dX10_image_44 : decode cX10_image 44 = .ok (.ireturn, 1) := wn_at gdX10_image_34 4 rfl
theorem gdX10_back_0 : ∀ e ∈ ([(0, .iload_n 1, 1), (1, .iconst 0, 1), (2, .iconst 3, 1), (3, .invokestatic 91, 3), (6, .ifCond .eq 15, 3), (9, .aload_n 0, 1), (10, .getfield 23, 3), (13, .iload_n 1, 1), (14, .aaload, 1), (15, .getfield 335, 3)] : List (Nat × Instr × Nat)), decode cX10_back e.1 = .ok e.2 := wn_all _ 0 (by decide +kernel)
theorem dX10_back_0 : decode cX10_back 0 = .ok (.iload_n 1, 1) := wn_at gdX10_back_0 0 rfl
theorem dX10_back_1 : decode cX10_back 1 = .ok (.iconst 0, 1) := wn_at gdX10_back_0 1 rfl
theorem dX10_back_2 : decode cX10_back 2 = .ok (.iconst 3, 1) := wn_at gdX10_back_0 2 rfl
theorem dX10_back_3 : decode cX10_back 3 = .ok (.invokestatic 91, 3) := wn_at gdX10_back_0 3 rfl
theorem dX10_back_6 : decode cX10_back 6 = .ok (.ifCond .eq 15, 3) := wn_at gdX10_back_0 4 rfl
theorem dX10_back_9 : decode cX10_back 9 = .ok (.aload_n 0, 1) := wn_at gdX10_back_0 5 rfl
theorem dX10_back_10 : decode cX10_back 10 = .ok (.getfield 23, 3) := wn_at gdX10_back_0 6 rfl
theorem dX10_back_13 : decode cX10_back 13 = .ok (.iload_n 1, 1) := wn_at gdX10_back_0 7 rfl
theorem dX10_back_14 : decode cX10_back 14 = .ok (.aaload, 1) := wn_at gdX10_back_0 8 rfl
theorem dX10_back_15 : decode cX10_back 15 = .ok (.getfield 335, 3) := wn_at gdX10_back_0 9 rfl
theorem gdX10_back_18 : ∀ e ∈ ([(18, .ifCond .ne 5, 3), (21, .iconst (-1), 1), (22, .ireturn, 1), (23, .aload_n 0, 1), (24, .getfield 19, 3), (27, .aload_n 0, 1), (28, .getfield 23, 3), (31, .iload_n 1, 1), (32, .aaload, 1), (33, .invokevirtual 332, 3)] : List (Nat × Instr × Nat)), decode cX10_back e.1 = .ok e.2 := wn_all _ 18 (by decide +kernel)
theorem dX10_back_18 : decode cX10_back 18 = .ok (.ifCond .ne 5, 3) := wn_at gdX10_back_18 0 rfl
theorem dX10_back_21 : decode cX10_back 21 = .ok (.iconst (-1), 1) := wn_at gdX10_back_18 1 rfl
theorem dX10_back_22 : decode cX10_back 22 = .ok (.ireturn, 1) := wn_at gdX10_back_18 2 rfl
theorem dX10_back_23 : decode cX10_back 23 = .ok (.aload_n 0, 1) := wn_at gdX10_back_18 3 rfl
theorem dX10_back_24 : decode cX10_back 24 = .ok (.getfield 19, 3) := wn_at gdX10_back_18 4 rfl
theorem dX10_back_27 : decode cX10_back 27 = .ok (.aload_n 0, 1) := wn_at gdX10_back_18 5 rfl
theorem dX10_back_28 : decode cX10_back 28 = .ok (.getfield 23, 3) := wn_at gdX10_back_18 6 rfl
theorem dX10_back_31 : decode cX10_back 31 = .ok (.iload_n 1, 1) := wn_at gdX10_back_18 7 rfl
theorem dX10_back_32 : decode cX10_back 32 = .ok (.aaload, 1) := wn_at gdX10_back_18 8 rfl
theorem dX10_back_33 : decode cX10_back 33 = .ok (.invokevirtual 332, 3) := wn_at gdX10_back_18 9 rfl
theorem gdX10_back_36 : ∀ e ∈ ([(36, .aload_n 0, 1), (37, .getfield 19, 3), (40, .getfield 109, 3), (43, .getfield 200, 3), (46, .ireturn, 1)] : List (Nat × Instr × Nat)), decode cX10_back e.1 = .ok e.2 := wn_all _ 36 (by decide +kernel)
theorem dX10_back_36 : decode cX10_back 36 = .ok (.aload_n 0, 1) := wn_at gdX10_back_36 0 rfl
theorem dX10_back_37 : decode cX10_back 37 = .ok (.getfield 19, 3) := wn_at gdX10_back_36 1 rfl
theorem dX10_back_40 : decode cX10_back 40 = .ok (.getfield 109, 3) := wn_at gdX10_back_36 2 rfl
theorem dX10_back_43 : decode cX10_back 43 = .ok (.getfield 200, 3) := wn_at gdX10_back_36 3 rfl
theorem dX10_back_46 : decode cX10_back 46 = .ok (.ireturn, 1) := wn_at gdX10_back_36 4 rfl
theorem gdX10_isFrom_0 : ∀ e ∈ ([(0, .iload_n 0, 1), (1, .iload_n 1, 1), (2, .if_icmp .lt 12, 3), (5, .iload_n 0, 1), (6, .iload_n 2, 1), (7, .if_icmp .gt 7, 3), (10, .iconst 1, 1), (11, .goto 4, 3), (14, .iconst 0, 1), (15, .ireturn, 1)] : List (Nat × Instr × Nat)), decode cX10_isFrom e.1 = .ok e.2 := wn_all _ 0 (by decide +kernel)
theorem dX10_isFrom_0 : decode cX10_isFrom 0 = .ok (.iload_n 0, 1) := wn_at gdX10_isFrom_0 0 rfl
theorem dX10_isFrom_1 : decode cX10_isFrom 1 = .ok (.iload_n 1, 1) := wn_at gdX10_isFrom_0 1 rfl
theorem dX10_isFrom_2 : decode cX10_isFrom 2 = .ok (.if_icmp .lt 12, 3) := wn_at gdX10_isFrom_0 2 rfl
theorem dX10_isFrom_5 : decode cX10_isFrom 5 = .ok (.iload_n 0, 1) := wn_at gdX10_isFrom_0 3 rfl
theorem dX10_isFrom_6 : decode cX10_isFrom 6 = .ok (.iload_n 2, 1) := wn_at gdX10_isFrom_0 4 rfl
theorem dX10_isFrom_7 : decode cX10_isFrom 7 = .ok (.if_icmp .gt 7, 3) := wn_at gdX10_isFrom_0 5 rfl
theorem dX10_isFrom_10 : decode cX10_isFrom 10 = .ok (.iconst 1, 1) := wn_at gdX10_isFrom_0 6 rfl
theorem dX10_isFrom_11 : decode cX10_isFrom 11 = .ok (.goto 4, 3) := wn_at gdX10_isFrom_0 7 rfl
theorem dX10_isFrom_14 : decode cX10_isFrom 14 = .ok (.iconst 0, 1) := wn_at gdX10_isFrom_0 8 rfl
theorem dX10_isFrom_15 : decode cX10_isFrom 15 = .ok (.ireturn, 1) := wn_at gdX10_isFrom_0 9 rfl
theorem gdX10_isHour_0 : ∀ e ∈ ([(0, .iload_n 0, 1), (1, .iconst 0, 1), (2, .sipush 9999, 3), (5, .invokestatic 91, 3), (8, .ireturn, 1)] : List (Nat × Instr × Nat)), decode cX10_isHour e.1 = .ok e.2 := wn_all _ 0 (by decide +kernel)
theorem dX10_isHour_0 : decode cX10_isHour 0 = .ok (.iload_n 0, 1) := wn_at gdX10_isHour_0 0 rfl
theorem dX10_isHour_1 : decode cX10_isHour 1 = .ok (.iconst 0, 1) := wn_at gdX10_isHour_0 1 rfl
theorem dX10_isHour_2 : decode cX10_isHour 2 = .ok (.sipush 9999, 3) := wn_at gdX10_isHour_0 2 rfl
theorem dX10_isHour_5 : decode cX10_isHour 5 = .ok (.invokestatic 91, 3) := wn_at gdX10_isHour_0 3 rfl
theorem dX10_isHour_8 : decode cX10_isHour 8 = .ok (.ireturn, 1) := wn_at gdX10_isHour_0 4 rfl
theorem gdX10_isPart_0 : ∀ e ∈ ([(0, .iload_n 0, 1), (1, .iconst 0, 1), (2, .iconst 1, 1), (3, .invokestatic 91, 3), (6, .ireturn, 1)] : List (Nat × Instr × Nat)), decode cX10_isPart e.1 = .ok e.2 := wn_all _ 0 (by decide +kernel)
theorem dX10_isPart_0 : decode cX10_isPart 0 = .ok (.iload_n 0, 1) := wn_at gdX10_isPart_0 0 rfl
theorem dX10_isPart_1 : decode cX10_isPart 1 = .ok (.iconst 0, 1) := wn_at gdX10_isPart_0 1 rfl
theorem dX10_isPart_2 : decode cX10_isPart 2 = .ok (.iconst 1, 1) := wn_at gdX10_isPart_0 2 rfl
theorem dX10_isPart_3 : decode cX10_isPart 3 = .ok (.invokestatic 91, 3) := wn_at gdX10_isPart_0 3 rfl
theorem dX10_isPart_6 : decode cX10_isPart 6 = .ok (.ireturn, 1) := wn_at gdX10_isPart_0 4 rfl
theorem gdX10_isFloor_0 : ∀ e ∈ ([(0, .iload_n 1, 1), (1, .iconst 0, 1), (2, .aload_n 0, 1), (3, .getfield 19, 3), (6, .getfield 102, 3), (9, .getfield 122, 3), (12, .iconst 1, 1), (13, .isub, 1), (14, .invokestatic 91, 3), (17, .ireturn, 1)] : List (Nat × Instr × Nat)), decode cX10_isFloor e.1 = .ok e.2 := wn_all _ 0 (by decide +kernel)
theorem dX10_isFloor_0 : decode cX10_isFloor 0 = .ok (.iload_n 1, 1) := wn_at gdX10_isFloor_0 0 rfl
theorem dX10_isFloor_1 : decode cX10_isFloor 1 = .ok (.iconst 0, 1) := wn_at gdX10_isFloor_0 1 rfl
theorem dX10_isFloor_2 : decode cX10_isFloor 2 = .ok (.aload_n 0, 1) := wn_at gdX10_isFloor_0 2 rfl
theorem dX10_isFloor_3 : decode cX10_isFloor 3 = .ok (.getfield 19, 3) := wn_at gdX10_isFloor_0 3 rfl
theorem dX10_isFloor_6 : decode cX10_isFloor 6 = .ok (.getfield 102, 3) := wn_at gdX10_isFloor_0 4 rfl
theorem dX10_isFloor_9 : decode cX10_isFloor 9 = .ok (.getfield 122, 3) := wn_at gdX10_isFloor_0 5 rfl
theorem dX10_isFloor_12 : decode cX10_isFloor 12 = .ok (.iconst 1, 1) := wn_at gdX10_isFloor_0 6 rfl
theorem dX10_isFloor_13 : decode cX10_isFloor 13 = .ok (.isub, 1) := wn_at gdX10_isFloor_0 7 rfl
theorem dX10_isFloor_14 : decode cX10_isFloor 14 = .ok (.invokestatic 91, 3) := wn_at gdX10_isFloor_0 8 rfl
theorem dX10_isFloor_17 : decode cX10_isFloor 17 = .ok (.ireturn, 1) := wn_at gdX10_isFloor_0 9 rfl
theorem gdX10_isThing_0 : ∀ e ∈ ([(0, .iload_n 1, 1), (1, .iconst 0, 1), (2, .aload_n 0, 1), (3, .getfield 19, 3), (6, .getfield 109, 3), (9, .getfield 285, 3), (12, .iconst 1, 1), (13, .isub, 1), (14, .invokestatic 91, 3), (17, .ireturn, 1)] : List (Nat × Instr × Nat)), decode cX10_isThing e.1 = .ok e.2 := wn_all _ 0 (by decide +kernel)
theorem dX10_isThing_0 : decode cX10_isThing 0 = .ok (.iload_n 1, 1) := wn_at gdX10_isThing_0 0 rfl
theorem dX10_isThing_1 : decode cX10_isThing 1 = .ok (.iconst 0, 1) := wn_at gdX10_isThing_0 1 rfl
theorem dX10_isThing_2 : decode cX10_isThing 2 = .ok (.aload_n 0, 1) := wn_at gdX10_isThing_0 2 rfl
theorem dX10_isThing_3 : decode cX10_isThing 3 = .ok (.getfield 19, 3) := wn_at gdX10_isThing_0 3 rfl
theorem dX10_isThing_6 : decode cX10_isThing 6 = .ok (.getfield 109, 3) := wn_at gdX10_isThing_0 4 rfl
theorem dX10_isThing_9 : decode cX10_isThing 9 = .ok (.getfield 285, 3) := wn_at gdX10_isThing_0 5 rfl
theorem dX10_isThing_12 : decode cX10_isThing 12 = .ok (.iconst 1, 1) := wn_at gdX10_isThing_0 6 rfl
theorem dX10_isThing_13 : decode cX10_isThing 13 = .ok (.isub, 1) := wn_at gdX10_isThing_0 7 rfl
theorem dX10_isThing_14 : decode cX10_isThing 14 = .ok (.invokestatic 91, 3) := wn_at gdX10_isThing_0 8 rfl
theorem dX10_isThing_17 : decode cX10_isThing 17 = .ok (.ireturn, 1) := wn_at gdX10_isThing_0 9 rfl
theorem gdX10_isStanding_0 : ∀ e ∈ ([(0, .aload_n 0, 1), (1, .iload_n 1, 1), (2, .invokevirtual 167, 3), (5, .ifCond .eq 21, 3), (8, .aload_n 0, 1), (9, .getfield 19, 3), (12, .getfield 109, 3), (15, .iload_n 1, 1), (16, .invokevirtual 215, 3), (19, .ifCond .eq 7, 3)] : List (Nat × Instr × Nat)), decode cX10_isStanding e.1 = .ok e.2 := wn_all _ 0 (by decide +kernel)
theorem dX10_isStanding_0 : decode cX10_isStanding 0 = .ok (.aload_n 0, 1) := wn_at gdX10_isStanding_0 0 rfl
theorem dX10_isStanding_1 : decode cX10_isStanding 1 = .ok (.iload_n 1, 1) := wn_at gdX10_isStanding_0 1 rfl
theorem dX10_isStanding_2 : decode cX10_isStanding 2 = .ok (.invokevirtual 167, 3) := wn_at gdX10_isStanding_0 2 rfl
theorem dX10_isStanding_5 : decode cX10_isStanding 5 = .ok (.ifCond .eq 21, 3) := wn_at gdX10_isStanding_0 3 rfl
theorem dX10_isStanding_8 : decode cX10_isStanding 8 = .ok (.aload_n 0, 1) := wn_at gdX10_isStanding_0 4 rfl
theorem dX10_isStanding_9 : decode cX10_isStanding 9 = .ok (.getfield 19, 3) := wn_at gdX10_isStanding_0 5 rfl
theorem dX10_isStanding_12 : decode cX10_isStanding 12 = .ok (.getfield 109, 3) := wn_at gdX10_isStanding_0 6 rfl
theorem dX10_isStanding_15 : decode cX10_isStanding 15 = .ok (.iload_n 1, 1) := wn_at gdX10_isStanding_0 7 rfl
theorem dX10_isStanding_16 : decode cX10_isStanding 16 = .ok (.invokevirtual 215, 3) := wn_at gdX10_isStanding_0 8 rfl
theorem dX10_isStanding_19 : decode cX10_isStanding 19 = .ok (.ifCond .eq 7, 3) := wn_at gdX10_isStanding_0 9 rfl
theorem gdX10_isStanding_22 : ∀ e ∈ ([(22, .iconst 1, 1), (23, .goto 4, 3), (26, .iconst 0, 1), (27, .ireturn, 1)] : List (Nat × Instr × Nat)), decode cX10_isStanding e.1 = .ok e.2 := wn_all _ 22 (by decide +kernel)
theorem dX10_isStanding_22 : decode cX10_isStanding 22 = .ok (.iconst 1, 1) := wn_at gdX10_isStanding_22 0 rfl
theorem dX10_isStanding_23 : decode cX10_isStanding 23 = .ok (.goto 4, 3) := wn_at gdX10_isStanding_22 1 rfl
theorem dX10_isStanding_26 : decode cX10_isStanding 26 = .ok (.iconst 0, 1) := wn_at gdX10_isStanding_22 2 rfl
theorem dX10_isStanding_27 : decode cX10_isStanding 27 = .ok (.ireturn, 1) := wn_at gdX10_isStanding_22 3 rfl
theorem gdX10_isRuleOrNone_0 : ∀ e ∈ ([(0, .iload_n 1, 1), (1, .iconst (-1), 1), (2, .aload_n 0, 1), (3, .getfield 79, 3), (6, .iconst 1, 1), (7, .isub, 1), (8, .invokestatic 91, 3), (11, .ireturn, 1)] : List (Nat × Instr × Nat)), decode cX10_isRuleOrNone e.1 = .ok e.2 := wn_all _ 0 (by decide +kernel)
theorem dX10_isRuleOrNone_0 : decode cX10_isRuleOrNone 0 = .ok (.iload_n 1, 1) := wn_at gdX10_isRuleOrNone_0 0 rfl
theorem dX10_isRuleOrNone_1 : decode cX10_isRuleOrNone 1 = .ok (.iconst (-1), 1) := wn_at gdX10_isRuleOrNone_0 1 rfl
theorem dX10_isRuleOrNone_2 : decode cX10_isRuleOrNone 2 = .ok (.aload_n 0, 1) := wn_at gdX10_isRuleOrNone_0 2 rfl
theorem dX10_isRuleOrNone_3 : decode cX10_isRuleOrNone 3 = .ok (.getfield 79, 3) := wn_at gdX10_isRuleOrNone_0 3 rfl
theorem dX10_isRuleOrNone_6 : decode cX10_isRuleOrNone 6 = .ok (.iconst 1, 1) := wn_at gdX10_isRuleOrNone_0 4 rfl
theorem dX10_isRuleOrNone_7 : decode cX10_isRuleOrNone 7 = .ok (.isub, 1) := wn_at gdX10_isRuleOrNone_0 5 rfl
theorem dX10_isRuleOrNone_8 : decode cX10_isRuleOrNone 8 = .ok (.invokestatic 91, 3) := wn_at gdX10_isRuleOrNone_0 6 rfl
theorem dX10_isRuleOrNone_11 : decode cX10_isRuleOrNone 11 = .ok (.ireturn, 1) := wn_at gdX10_isRuleOrNone_0 7 rfl
theorem gdX10_ruleOrNull_0 : ∀ e ∈ ([(0, .iload_n 1, 1), (1, .iconst 0, 1), (2, .aload_n 0, 1), (3, .getfield 79, 3), (6, .iconst 1, 1), (7, .isub, 1), (8, .invokestatic 91, 3), (11, .ifCond .eq 12, 3), (14, .aload_n 0, 1), (15, .getfield 29, 3)] : List (Nat × Instr × Nat)), decode cX10_ruleOrNull e.1 = .ok e.2 := wn_all _ 0 (by decide +kernel)
theorem dX10_ruleOrNull_0 : decode cX10_ruleOrNull 0 = .ok (.iload_n 1, 1) := wn_at gdX10_ruleOrNull_0 0 rfl
theorem dX10_ruleOrNull_1 : decode cX10_ruleOrNull 1 = .ok (.iconst 0, 1) := wn_at gdX10_ruleOrNull_0 1 rfl
theorem dX10_ruleOrNull_2 : decode cX10_ruleOrNull 2 = .ok (.aload_n 0, 1) := wn_at gdX10_ruleOrNull_0 2 rfl
theorem dX10_ruleOrNull_3 : decode cX10_ruleOrNull 3 = .ok (.getfield 79, 3) := wn_at gdX10_ruleOrNull_0 3 rfl
theorem dX10_ruleOrNull_6 : decode cX10_ruleOrNull 6 = .ok (.iconst 1, 1) := wn_at gdX10_ruleOrNull_0 4 rfl
theorem dX10_ruleOrNull_7 : decode cX10_ruleOrNull 7 = .ok (.isub, 1) := wn_at gdX10_ruleOrNull_0 5 rfl
theorem dX10_ruleOrNull_8 : decode cX10_ruleOrNull 8 = .ok (.invokestatic 91, 3) := wn_at gdX10_ruleOrNull_0 6 rfl
theorem dX10_ruleOrNull_11 : decode cX10_ruleOrNull 11 = .ok (.ifCond .eq 12, 3) := wn_at gdX10_ruleOrNull_0 7 rfl
theorem dX10_ruleOrNull_14 : decode cX10_ruleOrNull 14 = .ok (.aload_n 0, 1) := wn_at gdX10_ruleOrNull_0 8 rfl
theorem dX10_ruleOrNull_15 : decode cX10_ruleOrNull 15 = .ok (.getfield 29, 3) := wn_at gdX10_ruleOrNull_0 9 rfl
theorem gdX10_ruleOrNull_18 : ∀ e ∈ ([(18, .iload_n 1, 1), (19, .aaload, 1), (20, .goto 4, 3), (23, .aconst_null, 1), (24, .areturn, 1)] : List (Nat × Instr × Nat)), decode cX10_ruleOrNull e.1 = .ok e.2 := wn_all _ 18 (by decide +kernel)
theorem dX10_ruleOrNull_18 : decode cX10_ruleOrNull 18 = .ok (.iload_n 1, 1) := wn_at gdX10_ruleOrNull_18 0 rfl
theorem dX10_ruleOrNull_19 : decode cX10_ruleOrNull 19 = .ok (.aaload, 1) := wn_at gdX10_ruleOrNull_18 1 rfl
theorem dX10_ruleOrNull_20 : decode cX10_ruleOrNull 20 = .ok (.goto 4, 3) := wn_at gdX10_ruleOrNull_18 2 rfl
theorem dX10_ruleOrNull_23 : decode cX10_ruleOrNull 23 = .ok (.aconst_null, 1) := wn_at gdX10_ruleOrNull_18 3 rfl
theorem dX10_ruleOrNull_24 : decode cX10_ruleOrNull 24 = .ok (.areturn, 1) := wn_at gdX10_ruleOrNull_18 4 rfl
theorem gdX10_lookAhead_0 : ∀ e ∈ ([(0, .aload_n 0, 1), (1, .getfield 43, 3), (4, .aload_n 0, 1), (5, .getfield 19, 3), (8, .getfield 109, 3), (11, .invokevirtual 112, 3), (14, .aload_n 0, 1), (15, .getfield 43, 3), (18, .aload_n 0, 1), (19, .getfield 19, 3)] : List (Nat × Instr × Nat)), decode cX10_lookAhead e.1 = .ok e.2 := wn_all _ 0 (by decide +kernel)
theorem dX10_lookAhead_0 : decode cX10_lookAhead 0 = .ok (.aload_n 0, 1) := wn_at gdX10_lookAhead_0 0 rfl
theorem dX10_lookAhead_1 : decode cX10_lookAhead 1 = .ok (.getfield 43, 3) := wn_at gdX10_lookAhead_0 1 rfl
theorem dX10_lookAhead_4 : decode cX10_lookAhead 4 = .ok (.aload_n 0, 1) := wn_at gdX10_lookAhead_0 2 rfl
theorem dX10_lookAhead_5 : decode cX10_lookAhead 5 = .ok (.getfield 19, 3) := wn_at gdX10_lookAhead_0 3 rfl
theorem dX10_lookAhead_8 : decode cX10_lookAhead 8 = .ok (.getfield 109, 3) := wn_at gdX10_lookAhead_0 4 rfl
theorem dX10_lookAhead_11 : decode cX10_lookAhead 11 = .ok (.invokevirtual 112, 3) := wn_at gdX10_lookAhead_0 5 rfl
theorem dX10_lookAhead_14 : decode cX10_lookAhead 14 = .ok (.aload_n 0, 1) := wn_at gdX10_lookAhead_0 6 rfl
theorem dX10_lookAhead_15 : decode cX10_lookAhead 15 = .ok (.getfield 43, 3) := wn_at gdX10_lookAhead_0 7 rfl
theorem dX10_lookAhead_18 : decode cX10_lookAhead 18 = .ok (.aload_n 0, 1) := wn_at gdX10_lookAhead_0 8 rfl
theorem dX10_lookAhead_19 : decode cX10_lookAhead 19 = .ok (.getfield 19, 3) := wn_at gdX10_lookAhead_0 9 rfl
theorem gdX10_lookAhead_22 : ∀ e ∈ ([(22, .getfield 102, 3), (25, .aload_n 0, 1), (26, .iload_n 1, 1), (27, .invokevirtual 203, 3), (30, .iload_n 2, 1), (31, .invokevirtual 207, 3), (34, .return_, 1)] : List (Nat × Instr × Nat)), decode cX10_lookAhead e.1 = .ok e.2 := wn_all _ 22 (by decide +kernel)
theorem dX10_lookAhead_22 : decode cX10_lookAhead 22 = .ok (.getfield 102, 3) := wn_at gdX10_lookAhead_22 0 rfl
theorem dX10_lookAhead_25 : decode cX10_lookAhead 25 = .ok (.aload_n 0, 1) := wn_at gdX10_lookAhead_22 1 rfl
theorem dX10_lookAhead_26 : decode cX10_lookAhead 26 = .ok (.iload_n 1, 1) := wn_at gdX10_lookAhead_22 2 rfl
theorem dX10_lookAhead_27 : decode cX10_lookAhead 27 = .ok (.invokevirtual 203, 3) := wn_at gdX10_lookAhead_22 3 rfl
theorem dX10_lookAhead_30 : decode cX10_lookAhead 30 = .ok (.iload_n 2, 1) := wn_at gdX10_lookAhead_22 4 rfl
theorem dX10_lookAhead_31 : decode cX10_lookAhead 31 = .ok (.invokevirtual 207, 3) := wn_at gdX10_lookAhead_22 5 rfl
theorem dX10_lookAhead_34 : decode cX10_lookAhead 34 = .ok (.return_, 1) := wn_at gdX10_lookAhead_22 6 rfl
theorem gdX10_hoursMet_0 : ∀ e ∈ ([(0, .iconst 0, 1), (1, .istore 4, 2), (3, .aload_n 0, 1), (4, .getfield 43, 3), (7, .aload_n 0, 1), (8, .getfield 19, 3), (11, .getfield 109, 3), (14, .invokevirtual 112, 3), (17, .iconst 0, 1), (18, .istore 5, 2)] : List (Nat × Instr × Nat)), decode cX10_hoursMet e.1 = .ok e.2 := wn_all _ 0 (by decide +kernel)
theorem dX10_hoursMet_0 : decode cX10_hoursMet 0 = .ok (.iconst 0, 1) := wn_at gdX10_hoursMet_0 0 rfl
theorem dX10_hoursMet_1 : decode cX10_hoursMet 1 = .ok (.istore 4, 2) := wn_at gdX10_hoursMet_0 1 rfl
theorem dX10_hoursMet_3 : decode cX10_hoursMet 3 = .ok (.aload_n 0, 1) := wn_at gdX10_hoursMet_0 2 rfl
theorem dX10_hoursMet_4 : decode cX10_hoursMet 4 = .ok (.getfield 43, 3) := wn_at gdX10_hoursMet_0 3 rfl
theorem dX10_hoursMet_7 : decode cX10_hoursMet 7 = .ok (.aload_n 0, 1) := wn_at gdX10_hoursMet_0 4 rfl
theorem dX10_hoursMet_8 : decode cX10_hoursMet 8 = .ok (.getfield 19, 3) := wn_at gdX10_hoursMet_0 5 rfl
theorem dX10_hoursMet_11 : decode cX10_hoursMet 11 = .ok (.getfield 109, 3) := wn_at gdX10_hoursMet_0 6 rfl
theorem dX10_hoursMet_14 : decode cX10_hoursMet 14 = .ok (.invokevirtual 112, 3) := wn_at gdX10_hoursMet_0 7 rfl
theorem dX10_hoursMet_17 : decode cX10_hoursMet 17 = .ok (.iconst 0, 1) := wn_at gdX10_hoursMet_0 8 rfl
theorem dX10_hoursMet_18 : decode cX10_hoursMet 18 = .ok (.istore 5, 2) := wn_at gdX10_hoursMet_0 9 rfl
theorem gdX10_hoursMet_20 : ∀ e ∈ ([(20, .iload 5, 2), (22, .iload_n 3, 1), (23, .if_icmp .ge 42, 3), (26, .aload_n 0, 1), (27, .invokevirtual 339, 3), (30, .aload_n 0, 1), (31, .getfield 43, 3), (34, .aload_n 0, 1), (35, .getfield 19, 3), (38, .getfield 102, 3)] : List (Nat × Instr × Nat)), decode cX10_hoursMet e.1 = .ok e.2 := wn_all _ 20 (by decide +kernel)
theorem dX10_hoursMet_20 : decode cX10_hoursMet 20 = .ok (.iload 5, 2) := wn_at gdX10_hoursMet_20 0 rfl
theorem dX10_hoursMet_22 : decode cX10_hoursMet 22 = .ok (.iload_n 3, 1) := wn_at gdX10_hoursMet_20 1 rfl
theorem dX10_hoursMet_23 : decode cX10_hoursMet 23 = .ok (.if_icmp .ge 42, 3) := wn_at gdX10_hoursMet_20 2 rfl
theorem dX10_hoursMet_26 : decode cX10_hoursMet 26 = .ok (.aload_n 0, 1) := wn_at gdX10_hoursMet_20 3 rfl
theorem dX10_hoursMet_27 : decode cX10_hoursMet 27 = .ok (.invokevirtual 339, 3) := wn_at gdX10_hoursMet_20 4 rfl
theorem dX10_hoursMet_30 : decode cX10_hoursMet 30 = .ok (.aload_n 0, 1) := wn_at gdX10_hoursMet_20 5 rfl
theorem dX10_hoursMet_31 : decode cX10_hoursMet 31 = .ok (.getfield 43, 3) := wn_at gdX10_hoursMet_20 6 rfl
theorem dX10_hoursMet_34 : decode cX10_hoursMet 34 = .ok (.aload_n 0, 1) := wn_at gdX10_hoursMet_20 7 rfl
theorem dX10_hoursMet_35 : decode cX10_hoursMet 35 = .ok (.getfield 19, 3) := wn_at gdX10_hoursMet_20 8 rfl
theorem dX10_hoursMet_38 : decode cX10_hoursMet 38 = .ok (.getfield 102, 3) := wn_at gdX10_hoursMet_20 9 rfl
theorem gdX10_hoursMet_41 : ∀ e ∈ ([(41, .invokevirtual 342, 3), (44, .aload_n 0, 1), (45, .getfield 43, 3), (48, .iload_n 1, 1), (49, .iload_n 2, 1), (50, .invokevirtual 345, 3), (53, .ifCond .eq 6, 3), (56, .iinc 4 1, 3), (59, .iinc 5 1, 3), (62, .goto (-42), 3)] : List (Nat × Instr × Nat)), decode cX10_hoursMet e.1 = .ok e.2 := wn_all _ 41 (by decide +kernel)
theorem dX10_hoursMet_41 : decode cX10_hoursMet 41 = .ok (.invokevirtual 342, 3) := wn_at gdX10_hoursMet_41 0 rfl
theorem dX10_hoursMet_44 : decode cX10_hoursMet 44 = .ok (.aload_n 0, 1) := wn_at gdX10_hoursMet_41 1 rfl
theorem dX10_hoursMet_45 : decode cX10_hoursMet 45 = .ok (.getfield 43, 3) := wn_at gdX10_hoursMet_41 2 rfl
theorem dX10_hoursMet_48 : decode cX10_hoursMet 48 = .ok (.iload_n 1, 1) := wn_at gdX10_hoursMet_41 3 rfl
theorem dX10_hoursMet_49 : decode cX10_hoursMet 49 = .ok (.iload_n 2, 1) := wn_at gdX10_hoursMet_41 4 rfl
theorem dX10_hoursMet_50 : decode cX10_hoursMet 50 = .ok (.invokevirtual 345, 3) := wn_at gdX10_hoursMet_41 5 rfl
theorem dX10_hoursMet_53 : decode cX10_hoursMet 53 = .ok (.ifCond .eq 6, 3) := wn_at gdX10_hoursMet_41 6 rfl
theorem dX10_hoursMet_56 : decode cX10_hoursMet 56 = .ok (.iinc 4 1, 3) := wn_at gdX10_hoursMet_41 7 rfl
theorem dX10_hoursMet_59 : decode cX10_hoursMet 59 = .ok (.iinc 5 1, 3) := wn_at gdX10_hoursMet_41 8 rfl
theorem dX10_hoursMet_62 : decode cX10_hoursMet 62 = .ok (.goto (-42), 3) := wn_at gdX10_hoursMet_41 9 rfl
theorem gdX10_hoursMet_65 : ∀ e ∈ ([(65, .iload 4, 2), (67, .ireturn, 1)] : List (Nat × Instr × Nat)), decode cX10_hoursMet e.1 = .ok e.2 := wn_all _ 65 (by decide +kernel)
theorem dX10_hoursMet_65 : decode cX10_hoursMet 65 = .ok (.iload 4, 2) := wn_at gdX10_hoursMet_65 0 rfl
theorem dX10_hoursMet_67 : decode cX10_hoursMet 67 = .ok (.ireturn, 1) := wn_at gdX10_hoursMet_65 1 rfl
theorem gdX10_wander_0 : ∀ e ∈ ([(0, .iconst 0, 1), (1, .istore_n 1, 1), (2, .iload_n 1, 1), (3, .aload_n 0, 1), (4, .getfield 43, 3), (7, .getfield 285, 3), (10, .if_icmp .ge 114, 3), (13, .aload_n 0, 1), (14, .getfield 43, 3), (17, .iload_n 1, 1)] : List (Nat × Instr × Nat)), decode cX10_wander e.1 = .ok e.2 := wn_all _ 0 (by decide +kernel)
theorem dX10_wander_0 : decode cX10_wander 0 = .ok (.iconst 0, 1) := wn_at gdX10_wander_0 0 rfl
theorem dX10_wander_1 : decode cX10_wander 1 = .ok (.istore_n 1, 1) := wn_at gdX10_wander_0 1 rfl
theorem dX10_wander_2 : decode cX10_wander 2 = .ok (.iload_n 1, 1) := wn_at gdX10_wander_0 2 rfl
theorem dX10_wander_3 : decode cX10_wander 3 = .ok (.aload_n 0, 1) := wn_at gdX10_wander_0 3 rfl
theorem dX10_wander_4 : decode cX10_wander 4 = .ok (.getfield 43, 3) := wn_at gdX10_wander_0 4 rfl
theorem dX10_wander_7 : decode cX10_wander 7 = .ok (.getfield 285, 3) := wn_at gdX10_wander_0 5 rfl
theorem dX10_wander_10 : decode cX10_wander 10 = .ok (.if_icmp .ge 114, 3) := wn_at gdX10_wander_0 6 rfl
theorem dX10_wander_13 : decode cX10_wander 13 = .ok (.aload_n 0, 1) := wn_at gdX10_wander_0 7 rfl
theorem dX10_wander_14 : decode cX10_wander 14 = .ok (.getfield 43, 3) := wn_at gdX10_wander_0 8 rfl
theorem dX10_wander_17 : decode cX10_wander 17 = .ok (.iload_n 1, 1) := wn_at gdX10_wander_0 9 rfl
theorem gdX10_wander_18 : ∀ e ∈ ([(18, .invokevirtual 215, 3), (21, .ifCond .ne 6, 3), (24, .goto 94, 3), (27, .aload_n 0, 1), (28, .getfield 43, 3), (31, .getfield 170, 3), (34, .iload_n 1, 1), (35, .iaload, 1), (36, .istore_n 2, 1), (37, .aload_n 0, 1)] : List (Nat × Instr × Nat)), decode cX10_wander e.1 = .ok e.2 := wn_all _ 18 (by decide +kernel)
theorem dX10_wander_18 : decode cX10_wander 18 = .ok (.invokevirtual 215, 3) := wn_at gdX10_wander_18 0 rfl
theorem dX10_wander_21 : decode cX10_wander 21 = .ok (.ifCond .ne 6, 3) := wn_at gdX10_wander_18 1 rfl
theorem dX10_wander_24 : decode cX10_wander 24 = .ok (.goto 94, 3) := wn_at gdX10_wander_18 2 rfl
theorem dX10_wander_27 : decode cX10_wander 27 = .ok (.aload_n 0, 1) := wn_at gdX10_wander_18 3 rfl
theorem dX10_wander_28 : decode cX10_wander 28 = .ok (.getfield 43, 3) := wn_at gdX10_wander_18 4 rfl
theorem dX10_wander_31 : decode cX10_wander 31 = .ok (.getfield 170, 3) := wn_at gdX10_wander_18 5 rfl
theorem dX10_wander_34 : decode cX10_wander 34 = .ok (.iload_n 1, 1) := wn_at gdX10_wander_18 6 rfl
theorem dX10_wander_35 : decode cX10_wander 35 = .ok (.iaload, 1) := wn_at gdX10_wander_18 7 rfl
theorem dX10_wander_36 : decode cX10_wander 36 = .ok (.istore_n 2, 1) := wn_at gdX10_wander_18 8 rfl
theorem dX10_wander_37 : decode cX10_wander 37 = .ok (.aload_n 0, 1) := wn_at gdX10_wander_18 9 rfl
theorem gdX10_wander_38 : ∀ e ∈ ([(38, .getfield 19, 3), (41, .invokevirtual 349, 3), (44, .iconst 4, 1), (45, .irem, 1), (46, .ifCond .ne 7, 3), (49, .iconst 1, 1), (50, .goto 4, 3), (53, .iconst 0, 1), (54, .istore_n 3, 1), (55, .aload_n 0, 1)] : List (Nat × Instr × Nat)), decode cX10_wander e.1 = .ok e.2 := wn_all _ 38 (by decide +kernel)
theorem dX10_wander_38 : decode cX10_wander 38 = .ok (.getfield 19, 3) := wn_at gdX10_wander_38 0 rfl
theorem dX10_wander_41 : decode cX10_wander 41 = .ok (.invokevirtual 349, 3) := wn_at gdX10_wander_38 1 rfl
theorem dX10_wander_44 : decode cX10_wander 44 = .ok (.iconst 4, 1) := wn_at gdX10_wander_38 2 rfl
theorem dX10_wander_45 : decode cX10_wander 45 = .ok (.irem, 1) := wn_at gdX10_wander_38 3 rfl
theorem dX10_wander_46 : decode cX10_wander 46 = .ok (.ifCond .ne 7, 3) := wn_at gdX10_wander_38 4 rfl
theorem dX10_wander_49 : decode cX10_wander 49 = .ok (.iconst 1, 1) := wn_at gdX10_wander_38 5 rfl
theorem dX10_wander_50 : decode cX10_wander 50 = .ok (.goto 4, 3) := wn_at gdX10_wander_38 6 rfl
theorem dX10_wander_53 : decode cX10_wander 53 = .ok (.iconst 0, 1) := wn_at gdX10_wander_38 7 rfl
theorem dX10_wander_54 : decode cX10_wander 54 = .ok (.istore_n 3, 1) := wn_at gdX10_wander_38 8 rfl
theorem dX10_wander_55 : decode cX10_wander 55 = .ok (.aload_n 0, 1) := wn_at gdX10_wander_38 9 rfl
theorem gdX10_wander_56 : ∀ e ∈ ([(56, .getfield 19, 3), (59, .getfield 102, 3), (62, .iload_n 2, 1), (63, .invokevirtual 352, 3), (66, .istore 4, 2), (68, .iload_n 3, 1), (69, .ifCond .eq 49, 3), (72, .iload 4, 2), (74, .ifCond .le 44, 3), (77, .aload_n 0, 1)] : List (Nat × Instr × Nat)), decode cX10_wander e.1 = .ok e.2 := wn_all _ 56 (by decide +kernel)
theorem dX10_wander_56 : decode cX10_wander 56 = .ok (.getfield 19, 3) := wn_at gdX10_wander_56 0 rfl
theorem dX10_wander_59 : decode cX10_wander 59 = .ok (.getfield 102, 3) := wn_at gdX10_wander_56 1 rfl
theorem dX10_wander_62 : decode cX10_wander 62 = .ok (.iload_n 2, 1) := wn_at gdX10_wander_56 2 rfl
theorem dX10_wander_63 : decode cX10_wander 63 = .ok (.invokevirtual 352, 3) := wn_at gdX10_wander_56 3 rfl
theorem dX10_wander_66 : decode cX10_wander 66 = .ok (.istore 4, 2) := wn_at gdX10_wander_56 4 rfl
theorem dX10_wander_68 : decode cX10_wander 68 = .ok (.iload_n 3, 1) := wn_at gdX10_wander_56 5 rfl
theorem dX10_wander_69 : decode cX10_wander 69 = .ok (.ifCond .eq 49, 3) := wn_at gdX10_wander_56 6 rfl
theorem dX10_wander_72 : decode cX10_wander 72 = .ok (.iload 4, 2) := wn_at gdX10_wander_56 7 rfl
theorem dX10_wander_74 : decode cX10_wander 74 = .ok (.ifCond .le 44, 3) := wn_at gdX10_wander_56 8 rfl
theorem dX10_wander_77 : decode cX10_wander 77 = .ok (.aload_n 0, 1) := wn_at gdX10_wander_56 9 rfl
theorem gdX10_wander_78 : ∀ e ∈ ([(78, .getfield 19, 3), (81, .getfield 102, 3), (84, .iload_n 2, 1), (85, .aload_n 0, 1), (86, .getfield 19, 3), (89, .invokevirtual 349, 3), (92, .iload 4, 2), (94, .irem, 1), (95, .invokevirtual 355, 3), (98, .istore 5, 2)] : List (Nat × Instr × Nat)), decode cX10_wander e.1 = .ok e.2 := wn_all _ 78 (by decide +kernel)
theorem dX10_wander_78 : decode cX10_wander 78 = .ok (.getfield 19, 3) := wn_at gdX10_wander_78 0 rfl
theorem dX10_wander_81 : decode cX10_wander 81 = .ok (.getfield 102, 3) := wn_at gdX10_wander_78 1 rfl
theorem dX10_wander_84 : decode cX10_wander 84 = .ok (.iload_n 2, 1) := wn_at gdX10_wander_78 2 rfl
theorem dX10_wander_85 : decode cX10_wander 85 = .ok (.aload_n 0, 1) := wn_at gdX10_wander_78 3 rfl
theorem dX10_wander_86 : decode cX10_wander 86 = .ok (.getfield 19, 3) := wn_at gdX10_wander_78 4 rfl
theorem dX10_wander_89 : decode cX10_wander 89 = .ok (.invokevirtual 349, 3) := wn_at gdX10_wander_78 5 rfl
theorem dX10_wander_92 : decode cX10_wander 92 = .ok (.iload 4, 2) := wn_at gdX10_wander_78 6 rfl
theorem dX10_wander_94 : decode cX10_wander 94 = .ok (.irem, 1) := wn_at gdX10_wander_78 7 rfl
theorem dX10_wander_95 : decode cX10_wander 95 = .ok (.invokevirtual 355, 3) := wn_at gdX10_wander_78 8 rfl
theorem dX10_wander_98 : decode cX10_wander 98 = .ok (.istore 5, 2) := wn_at gdX10_wander_78 9 rfl
theorem gdX10_wander_100 : ∀ e ∈ ([(100, .aload_n 0, 1), (101, .getfield 43, 3), (104, .aload_n 0, 1), (105, .getfield 19, 3), (108, .getfield 102, 3), (111, .iload_n 1, 1), (112, .iload 5, 2), (114, .invokevirtual 193, 3), (117, .pop, 1), (118, .iinc 1 1, 3)] : List (Nat × Instr × Nat)), decode cX10_wander e.1 = .ok e.2 := wn_all _ 100 (by decide +kernel)
theorem dX10_wander_100 : decode cX10_wander 100 = .ok (.aload_n 0, 1) := wn_at gdX10_wander_100 0 rfl
theorem dX10_wander_101 : decode cX10_wander 101 = .ok (.getfield 43, 3) := wn_at gdX10_wander_100 1 rfl
theorem dX10_wander_104 : decode cX10_wander 104 = .ok (.aload_n 0, 1) := wn_at gdX10_wander_100 2 rfl
theorem dX10_wander_105 : decode cX10_wander 105 = .ok (.getfield 19, 3) := wn_at gdX10_wander_100 3 rfl
theorem dX10_wander_108 : decode cX10_wander 108 = .ok (.getfield 102, 3) := wn_at gdX10_wander_100 4 rfl
theorem dX10_wander_111 : decode cX10_wander 111 = .ok (.iload_n 1, 1) := wn_at gdX10_wander_100 5 rfl
theorem dX10_wander_112 : decode cX10_wander 112 = .ok (.iload 5, 2) := wn_at gdX10_wander_100 6 rfl
theorem dX10_wander_114 : decode cX10_wander 114 = .ok (.invokevirtual 193, 3) := wn_at gdX10_wander_100 7 rfl
theorem dX10_wander_117 : decode cX10_wander 117 = .ok (.pop, 1) := wn_at gdX10_wander_100 8 rfl
theorem dX10_wander_118 : decode cX10_wander 118 = .ok (.iinc 1 1, 3) := wn_at gdX10_wander_100 9 rfl
theorem gdX10_wander_121 : ∀ e ∈ ([(121, .goto (-119), 3), (124, .return_, 1)] : List (Nat × Instr × Nat)), decode cX10_wander e.1 = .ok e.2 := wn_all _ 121 (by decide +kernel)
theorem dX10_wander_121 : decode cX10_wander 121 = .ok (.goto (-119), 3) := wn_at gdX10_wander_121 0 rfl
theorem dX10_wander_124 : decode cX10_wander 124 = .ok (.return_, 1) := wn_at gdX10_wander_121 1 rfl
theorem gdX10_commonDivisor_0 : ∀ e ∈ ([(0, .lload_n 0, 1), (1, .invokestatic 255, 3), (4, .lstore 4, 2), (6, .lload_n 2, 1), (7, .invokestatic 255, 3), (10, .lstore 6, 2), (12, .iconst 0, 1), (13, .istore 8, 2), (15, .iload 8, 2), (17, .sipush 128, 3)] : List (Nat × Instr × Nat)), decode cX10_commonDivisor e.1 = .ok e.2 := wn_all _ 0 (by decide +kernel)
theorem dX10_commonDivisor_0 : decode cX10_commonDivisor 0 = .ok (.lload_n 0, 1) := wn_at gdX10_commonDivisor_0 0 rfl
theorem dX10_commonDivisor_1 : decode cX10_commonDivisor 1 = .ok (.invokestatic 255, 3) := wn_at gdX10_commonDivisor_0 1 rfl
theorem dX10_commonDivisor_4 : decode cX10_commonDivisor 4 = .ok (.lstore 4, 2) := wn_at gdX10_commonDivisor_0 2 rfl
theorem dX10_commonDivisor_6 : decode cX10_commonDivisor 6 = .ok (.lload_n 2, 1) := wn_at gdX10_commonDivisor_0 3 rfl
theorem dX10_commonDivisor_7 : decode cX10_commonDivisor 7 = .ok (.invokestatic 255, 3) := wn_at gdX10_commonDivisor_0 4 rfl
theorem dX10_commonDivisor_10 : decode cX10_commonDivisor 10 = .ok (.lstore 6, 2) := wn_at gdX10_commonDivisor_0 5 rfl
theorem dX10_commonDivisor_12 : decode cX10_commonDivisor 12 = .ok (.iconst 0, 1) := wn_at gdX10_commonDivisor_0 6 rfl
theorem dX10_commonDivisor_13 : decode cX10_commonDivisor 13 = .ok (.istore 8, 2) := wn_at gdX10_commonDivisor_0 7 rfl
theorem dX10_commonDivisor_15 : decode cX10_commonDivisor 15 = .ok (.iload 8, 2) := wn_at gdX10_commonDivisor_0 8 rfl
theorem dX10_commonDivisor_17 : decode cX10_commonDivisor 17 = .ok (.sipush 128, 3) := wn_at gdX10_commonDivisor_0 9 rfl
theorem gdX10_commonDivisor_20 : ∀ e ∈ ([(20, .if_icmp .ge 31, 3), (23, .lload 6, 2), (25, .lconst 0, 1), (26, .lcmp, 1), (27, .ifCond .eq 24, 3), (30, .lload 4, 2), (32, .lload 6, 2), (34, .lrem, 1), (35, .lstore 9, 2), (37, .lload 6, 2)] : List (Nat × Instr × Nat)), decode cX10_commonDivisor e.1 = .ok e.2 := wn_all _ 20 (by decide +kernel)
theorem dX10_commonDivisor_20 : decode cX10_commonDivisor 20 = .ok (.if_icmp .ge 31, 3) := wn_at gdX10_commonDivisor_20 0 rfl
theorem dX10_commonDivisor_23 : decode cX10_commonDivisor 23 = .ok (.lload 6, 2) := wn_at gdX10_commonDivisor_20 1 rfl
theorem dX10_commonDivisor_25 : decode cX10_commonDivisor 25 = .ok (.lconst 0, 1) := wn_at gdX10_commonDivisor_20 2 rfl
theorem dX10_commonDivisor_26 : decode cX10_commonDivisor 26 = .ok (.lcmp, 1) := wn_at gdX10_commonDivisor_20 3 rfl
theorem dX10_commonDivisor_27 : decode cX10_commonDivisor 27 = .ok (.ifCond .eq 24, 3) := wn_at gdX10_commonDivisor_20 4 rfl
theorem dX10_commonDivisor_30 : decode cX10_commonDivisor 30 = .ok (.lload 4, 2) := wn_at gdX10_commonDivisor_20 5 rfl
theorem dX10_commonDivisor_32 : decode cX10_commonDivisor 32 = .ok (.lload 6, 2) := wn_at gdX10_commonDivisor_20 6 rfl
theorem dX10_commonDivisor_34 : decode cX10_commonDivisor 34 = .ok (.lrem, 1) := wn_at gdX10_commonDivisor_20 7 rfl
theorem dX10_commonDivisor_35 : decode cX10_commonDivisor 35 = .ok (.lstore 9, 2) := wn_at gdX10_commonDivisor_20 8 rfl
theorem dX10_commonDivisor_37 : decode cX10_commonDivisor 37 = .ok (.lload 6, 2) := wn_at gdX10_commonDivisor_20 9 rfl
theorem gdX10_commonDivisor_39 : ∀ e ∈ ([(39, .lstore 4, 2), (41, .lload 9, 2), (43, .lstore 6, 2), (45, .iinc 8 1, 3), (48, .goto (-33), 3), (51, .lload 4, 2), (53, .lreturn, 1)] : List (Nat × Instr × Nat)), decode cX10_commonDivisor e.1 = .ok e.2 := wn_all _ 39 (by decide +kernel)
theorem dX10_commonDivisor_39 : decode cX10_commonDivisor 39 = .ok (.lstore 4, 2) := wn_at gdX10_commonDivisor_39 0 rfl
theorem dX10_commonDivisor_41 : decode cX10_commonDivisor 41 = .ok (.lload 9, 2) := wn_at gdX10_commonDivisor_39 1 rfl
theorem dX10_commonDivisor_43 : decode cX10_commonDivisor 43 = .ok (.lstore 6, 2) := wn_at gdX10_commonDivisor_39 2 rfl
theorem dX10_commonDivisor_45 : decode cX10_commonDivisor 45 = .ok (.iinc 8 1, 3) := wn_at gdX10_commonDivisor_39 3 rfl
theorem dX10_commonDivisor_48 : decode cX10_commonDivisor 48 = .ok (.goto (-33), 3) := wn_at gdX10_commonDivisor_39 4 rfl
theorem dX10_commonDivisor_51 : decode cX10_commonDivisor 51 = .ok (.lload 4, 2) := wn_at gdX10_commonDivisor_39 5 rfl
theorem dX10_commonDivisor_53 : decode cX10_commonDivisor 53 = .ok (.lreturn, 1) := wn_at gdX10_commonDivisor_39 6 rfl
theorem gdX10_lowest_0 : ∀ e ∈ ([(0, .lload_n 0, 1), (1, .lload_n 2, 1), (2, .invokestatic 236, 3), (5, .lstore 5, 2), (7, .lload 5, 2), (9, .lconst 0, 1), (10, .lcmp, 1), (11, .ifCond .ne 7, 3), (14, .ldc2_w 185, 3), (17, .lreturn, 1)] : List (Nat × Instr × Nat)), decode cX10_lowest e.1 = .ok e.2 := wn_all _ 0 (by decide +kernel)
theorem dX10_lowest_0 : decode cX10_lowest 0 = .ok (.lload_n 0, 1) := wn_at gdX10_lowest_0 0 rfl
theorem dX10_lowest_1 : decode cX10_lowest 1 = .ok (.lload_n 2, 1) := wn_at gdX10_lowest_0 1 rfl
theorem dX10_lowest_2 : decode cX10_lowest 2 = .ok (.invokestatic 236, 3) := wn_at gdX10_lowest_0 2 rfl
theorem dX10_lowest_5 : decode cX10_lowest 5 = .ok (.lstore 5, 2) := wn_at gdX10_lowest_0 3 rfl
theorem dX10_lowest_7 : decode cX10_lowest 7 = .ok (.lload 5, 2) := wn_at gdX10_lowest_0 4 rfl
theorem dX10_lowest_9 : decode cX10_lowest 9 = .ok (.lconst 0, 1) := wn_at gdX10_lowest_0 5 rfl
theorem dX10_lowest_10 : decode cX10_lowest 10 = .ok (.lcmp, 1) := wn_at gdX10_lowest_0 6 rfl
theorem dX10_lowest_11 : decode cX10_lowest 11 = .ok (.ifCond .ne 7, 3) := wn_at gdX10_lowest_0 7 rfl
theorem dX10_lowest_14 : decode cX10_lowest 14 = .ok (.ldc2_w 185, 3) := wn_at gdX10_lowest_0 8 rfl
theorem dX10_lowest_17 : decode cX10_lowest 17 = .ok (.lreturn, 1) := wn_at gdX10_lowest_0 9 rfl
theorem gdX10_lowest_18 : ∀ e ∈ ([(18, .iload 4, 2), (20, .ifCond .ne 7, 3), (23, .lload_n 0, 1), (24, .goto 4, 3), (27, .lload_n 2, 1), (28, .lload 5, 2), (30, .ldiv, 1), (31, .lreturn, 1)] : List (Nat × Instr × Nat)), decode cX10_lowest e.1 = .ok e.2 := wn_all _ 18 (by decide +kernel)
theorem dX10_lowest_18 : decode cX10_lowest 18 = .ok (.iload 4, 2) := wn_at gdX10_lowest_18 0 rfl
theorem dX10_lowest_20 : decode cX10_lowest 20 = .ok (.ifCond .ne 7, 3) := wn_at gdX10_lowest_18 1 rfl
theorem dX10_lowest_23 : decode cX10_lowest 23 = .ok (.lload_n 0, 1) := wn_at gdX10_lowest_18 2 rfl
theorem dX10_lowest_24 : decode cX10_lowest 24 = .ok (.goto 4, 3) := wn_at gdX10_lowest_18 3 rfl
theorem dX10_lowest_27 : decode cX10_lowest 27 = .ok (.lload_n 2, 1) := wn_at gdX10_lowest_18 4 rfl
theorem dX10_lowest_28 : decode cX10_lowest 28 = .ok (.lload 5, 2) := wn_at gdX10_lowest_18 5 rfl
theorem dX10_lowest_30 : decode cX10_lowest 30 = .ok (.ldiv, 1) := wn_at gdX10_lowest_18 6 rfl
theorem dX10_lowest_31 : decode cX10_lowest 31 = .ok (.lreturn, 1) := wn_at gdX10_lowest_18 7 rfl
theorem gdX10_upwards_0 : ∀ e ∈ ([(0, .lload_n 2, 1), (1, .lconst 0, 1), (2, .lcmp, 1), (3, .ifCond .gt 9, 3), (6, .ldc2_w 185, 3), (9, .goto 10, 3), (12, .lload_n 0, 1), (13, .lload_n 2, 1), (14, .ladd, 1), (15, .lconst 1, 1)] : List (Nat × Instr × Nat)), decode cX10_upwards e.1 = .ok e.2 := wn_all _ 0 (by decide +kernel)
theorem dX10_upwards_0 : decode cX10_upwards 0 = .ok (.lload_n 2, 1) := wn_at gdX10_upwards_0 0 rfl
theorem dX10_upwards_1 : decode cX10_upwards 1 = .ok (.lconst 0, 1) := wn_at gdX10_upwards_0 1 rfl
theorem dX10_upwards_2 : decode cX10_upwards 2 = .ok (.lcmp, 1) := wn_at gdX10_upwards_0 2 rfl
theorem dX10_upwards_3 : decode cX10_upwards 3 = .ok (.ifCond .gt 9, 3) := wn_at gdX10_upwards_0 3 rfl
theorem dX10_upwards_6 : decode cX10_upwards 6 = .ok (.ldc2_w 185, 3) := wn_at gdX10_upwards_0 4 rfl
theorem dX10_upwards_9 : decode cX10_upwards 9 = .ok (.goto 10, 3) := wn_at gdX10_upwards_0 5 rfl
theorem dX10_upwards_12 : decode cX10_upwards 12 = .ok (.lload_n 0, 1) := wn_at gdX10_upwards_0 6 rfl
theorem dX10_upwards_13 : decode cX10_upwards 13 = .ok (.lload_n 2, 1) := wn_at gdX10_upwards_0 7 rfl
theorem dX10_upwards_14 : decode cX10_upwards 14 = .ok (.ladd, 1) := wn_at gdX10_upwards_0 8 rfl
theorem dX10_upwards_15 : decode cX10_upwards 15 = .ok (.lconst 1, 1) := wn_at gdX10_upwards_0 9 rfl
theorem gdX10_upwards_16 : ∀ e ∈ ([(16, .lsub, 1), (17, .lload_n 2, 1), (18, .ldiv, 1), (19, .lreturn, 1)] : List (Nat × Instr × Nat)), decode cX10_upwards e.1 = .ok e.2 := wn_all _ 16 (by decide +kernel)
theorem dX10_upwards_16 : decode cX10_upwards 16 = .ok (.lsub, 1) := wn_at gdX10_upwards_16 0 rfl
theorem dX10_upwards_17 : decode cX10_upwards 17 = .ok (.lload_n 2, 1) := wn_at gdX10_upwards_16 1 rfl
theorem dX10_upwards_18 : decode cX10_upwards 18 = .ok (.ldiv, 1) := wn_at gdX10_upwards_16 2 rfl
theorem dX10_upwards_19 : decode cX10_upwards 19 = .ok (.lreturn, 1) := wn_at gdX10_upwards_16 3 rfl
theorem gdX10_noonsUpTo_0 : ∀ e ∈ ([(0, .lload_n 0, 1), (1, .ldc2_w 242, 3), (4, .lcmp, 1), (5, .ifCond .ge 7, 3), (8, .lconst 0, 1), (9, .goto 14, 3), (12, .lload_n 0, 1), (13, .ldc2_w 242, 3), (16, .lsub, 1), (17, .ldc2_w 277, 3)] : List (Nat × Instr × Nat)), decode cX10_noonsUpTo e.1 = .ok e.2 := wn_all _ 0 (by decide +kernel)
theorem dX10_noonsUpTo_0 : decode cX10_noonsUpTo 0 = .ok (.lload_n 0, 1) := wn_at gdX10_noonsUpTo_0 0 rfl
theorem dX10_noonsUpTo_1 : decode cX10_noonsUpTo 1 = .ok (.ldc2_w 242, 3) := wn_at gdX10_noonsUpTo_0 1 rfl
theorem dX10_noonsUpTo_4 : decode cX10_noonsUpTo 4 = .ok (.lcmp, 1) := wn_at gdX10_noonsUpTo_0 2 rfl
theorem dX10_noonsUpTo_5 : decode cX10_noonsUpTo 5 = .ok (.ifCond .ge 7, 3) := wn_at gdX10_noonsUpTo_0 3 rfl
theorem dX10_noonsUpTo_8 : decode cX10_noonsUpTo 8 = .ok (.lconst 0, 1) := wn_at gdX10_noonsUpTo_0 4 rfl
theorem dX10_noonsUpTo_9 : decode cX10_noonsUpTo 9 = .ok (.goto 14, 3) := wn_at gdX10_noonsUpTo_0 5 rfl
theorem dX10_noonsUpTo_12 : decode cX10_noonsUpTo 12 = .ok (.lload_n 0, 1) := wn_at gdX10_noonsUpTo_0 6 rfl
theorem dX10_noonsUpTo_13 : decode cX10_noonsUpTo 13 = .ok (.ldc2_w 242, 3) := wn_at gdX10_noonsUpTo_0 7 rfl
theorem dX10_noonsUpTo_16 : decode cX10_noonsUpTo 16 = .ok (.lsub, 1) := wn_at gdX10_noonsUpTo_0 8 rfl
theorem dX10_noonsUpTo_17 : decode cX10_noonsUpTo 17 = .ok (.ldc2_w 277, 3) := wn_at gdX10_noonsUpTo_0 9 rfl
theorem gdX10_noonsUpTo_20 : ∀ e ∈ ([(20, .ldiv, 1), (21, .lconst 1, 1), (22, .ladd, 1), (23, .lreturn, 1)] : List (Nat × Instr × Nat)), decode cX10_noonsUpTo e.1 = .ok e.2 := wn_all _ 20 (by decide +kernel)
theorem dX10_noonsUpTo_20 : decode cX10_noonsUpTo 20 = .ok (.ldiv, 1) := wn_at gdX10_noonsUpTo_20 0 rfl
theorem dX10_noonsUpTo_21 : decode cX10_noonsUpTo 21 = .ok (.lconst 1, 1) := wn_at gdX10_noonsUpTo_20 1 rfl
theorem dX10_noonsUpTo_22 : decode cX10_noonsUpTo 22 = .ok (.ladd, 1) := wn_at gdX10_noonsUpTo_20 2 rfl
theorem dX10_noonsUpTo_23 : decode cX10_noonsUpTo 23 = .ok (.lreturn, 1) := wn_at gdX10_noonsUpTo_20 3 rfl
theorem gdX11_init_0 : ∀ e ∈ ([(0, .aload_n 0, 1), (1, .invokespecial 1, 3), (4, .aload_n 0, 1), (5, .sipush 400, 3), (8, .newarray .byte, 2), (10, .putfield 7, 3), (13, .aload_n 0, 1), (14, .sipush 2400, 3), (17, .newarray .int, 2), (19, .putfield 13, 3)] : List (Nat × Instr × Nat)), decode cX11_init e.1 = .ok e.2 := wn_all _ 0 (by decide +kernel)
theorem dX11_init_0 : decode cX11_init 0 = .ok (.aload_n 0, 1) := wn_at gdX11_init_0 0 rfl
theorem dX11_init_1 : decode cX11_init 1 = .ok (.invokespecial 1, 3) := wn_at gdX11_init_0 1 rfl
theorem dX11_init_4 : decode cX11_init 4 = .ok (.aload_n 0, 1) := wn_at gdX11_init_0 2 rfl
theorem dX11_init_5 : decode cX11_init 5 = .ok (.sipush 400, 3) := wn_at gdX11_init_0 3 rfl
theorem dX11_init_8 : decode cX11_init 8 = .ok (.newarray .byte, 2) := wn_at gdX11_init_0 4 rfl
theorem dX11_init_10 : decode cX11_init 10 = .ok (.putfield 7, 3) := wn_at gdX11_init_0 5 rfl
theorem dX11_init_13 : decode cX11_init 13 = .ok (.aload_n 0, 1) := wn_at gdX11_init_0 6 rfl
theorem dX11_init_14 : decode cX11_init 14 = .ok (.sipush 2400, 3) := wn_at gdX11_init_0 7 rfl
theorem dX11_init_17 : decode cX11_init 17 = .ok (.newarray .int, 2) := wn_at gdX11_init_0 8 rfl
theorem dX11_init_19 : decode cX11_init 19 = .ok (.putfield 13, 3) := wn_at gdX11_init_0 9 rfl
theorem gdX11_init_22 : ∀ e ∈ ([(22, .aload_n 0, 1), (23, .bipush 7, 2), (25, .newarray .int, 2), (27, .putfield 17, 3), (30, .aload_n 0, 1), (31, .sipush 216, 3), (34, .newarray .int, 2), (36, .putfield 20, 3), (39, .aload_n 0, 1), (40, .bipush 6, 2)] : List (Nat × Instr × Nat)), decode cX11_init e.1 = .ok e.2 := wn_all _ 22 (by decide +kernel)
theorem dX11_init_22 : decode cX11_init 22 = .ok (.aload_n 0, 1) := wn_at gdX11_init_22 0 rfl
theorem dX11_init_23 : decode cX11_init 23 = .ok (.bipush 7, 2) := wn_at gdX11_init_22 1 rfl
theorem dX11_init_25 : decode cX11_init 25 = .ok (.newarray .int, 2) := wn_at gdX11_init_22 2 rfl
theorem dX11_init_27 : decode cX11_init 27 = .ok (.putfield 17, 3) := wn_at gdX11_init_22 3 rfl
theorem dX11_init_30 : decode cX11_init 30 = .ok (.aload_n 0, 1) := wn_at gdX11_init_22 4 rfl
theorem dX11_init_31 : decode cX11_init 31 = .ok (.sipush 216, 3) := wn_at gdX11_init_22 5 rfl
theorem dX11_init_34 : decode cX11_init 34 = .ok (.newarray .int, 2) := wn_at gdX11_init_22 6 rfl
theorem dX11_init_36 : decode cX11_init 36 = .ok (.putfield 20, 3) := wn_at gdX11_init_22 7 rfl
theorem dX11_init_39 : decode cX11_init 39 = .ok (.aload_n 0, 1) := wn_at gdX11_init_22 8 rfl
theorem dX11_init_40 : decode cX11_init 40 = .ok (.bipush 6, 2) := wn_at gdX11_init_22 9 rfl
theorem gdX11_init_42 : ∀ e ∈ ([(42, .newarray .int, 2), (44, .putfield 23, 3), (47, .aload_n 0, 1), (48, .bipush 20, 2), (50, .newarray .int, 2), (52, .putfield 26, 3), (55, .aload_n 0, 1), (56, .bipush 60, 2), (58, .newarray .int, 2), (60, .putfield 29, 3)] : List (Nat × Instr × Nat)), decode cX11_init e.1 = .ok e.2 := wn_all _ 42 (by decide +kernel)
theorem dX11_init_42 : decode cX11_init 42 = .ok (.newarray .int, 2) := wn_at gdX11_init_42 0 rfl
theorem dX11_init_44 : decode cX11_init 44 = .ok (.putfield 23, 3) := wn_at gdX11_init_42 1 rfl
theorem dX11_init_47 : decode cX11_init 47 = .ok (.aload_n 0, 1) := wn_at gdX11_init_42 2 rfl
theorem dX11_init_48 : decode cX11_init 48 = .ok (.bipush 20, 2) := wn_at gdX11_init_42 3 rfl
theorem dX11_init_50 : decode cX11_init 50 = .ok (.newarray .int, 2) := wn_at gdX11_init_42 4 rfl
theorem dX11_init_52 : decode cX11_init 52 = .ok (.putfield 26, 3) := wn_at gdX11_init_42 5 rfl
theorem dX11_init_55 : decode cX11_init 55 = .ok (.aload_n 0, 1) := wn_at gdX11_init_42 6 rfl
theorem dX11_init_56 : decode cX11_init 56 = .ok (.bipush 60, 2) := wn_at gdX11_init_42 7 rfl
theorem dX11_init_58 : decode cX11_init 58 = .ok (.newarray .int, 2) := wn_at gdX11_init_42 8 rfl
theorem dX11_init_60 : decode cX11_init 60 = .ok (.putfield 29, 3) := wn_at gdX11_init_42 9 rfl
theorem gdX11_init_63 : ∀ e ∈ ([(63, .aload_n 0, 1), (64, .bipush 8, 2), (66, .newarray .int, 2), (68, .putfield 32, 3), (71, .aload_n 0, 1), (72, .sipush 400, 3), (75, .newarray .int, 2), (77, .putfield 35, 3), (80, .aload_n 0, 1), (81, .bipush 64, 2)] : List (Nat × Instr × Nat)), decode cX11_init e.1 = .ok e.2 := wn_all _ 63 (by decide +kernel)
theorem dX11_init_63 : decode cX11_init 63 = .ok (.aload_n 0, 1) := wn_at gdX11_init_63 0 rfl
theorem dX11_init_64 : decode cX11_init 64 = .ok (.bipush 8, 2) := wn_at gdX11_init_63 1 rfl
theorem dX11_init_66 : decode cX11_init 66 = .ok (.newarray .int, 2) := wn_at gdX11_init_63 2 rfl
theorem dX11_init_68 : decode cX11_init 68 = .ok (.putfield 32, 3) := wn_at gdX11_init_63 3 rfl
theorem dX11_init_71 : decode cX11_init 71 = .ok (.aload_n 0, 1) := wn_at gdX11_init_63 4 rfl
theorem dX11_init_72 : decode cX11_init 72 = .ok (.sipush 400, 3) := wn_at gdX11_init_63 5 rfl
theorem dX11_init_75 : decode cX11_init 75 = .ok (.newarray .int, 2) := wn_at gdX11_init_63 6 rfl
theorem dX11_init_77 : decode cX11_init 77 = .ok (.putfield 35, 3) := wn_at gdX11_init_63 7 rfl
theorem dX11_init_80 : decode cX11_init 80 = .ok (.aload_n 0, 1) := wn_at gdX11_init_63 8 rfl
theorem dX11_init_81 : decode cX11_init 81 = .ok (.bipush 64, 2) := wn_at gdX11_init_63 9 rfl
theorem gdX11_init_83 : ∀ e ∈ ([(83, .newarray .long, 2), (85, .putfield 38, 3), (88, .aload_n 0, 1), (89, .bipush 8, 2), (91, .newarray .long, 2), (93, .putfield 42, 3), (96, .aload_n 0, 1), (97, .sipush 158, 3), (100, .newarray .int, 2), (102, .putfield 45, 3)] : List (Nat × Instr × Nat)), decode cX11_init e.1 = .ok e.2 := wn_all _ 83 (by decide +kernel)
theorem dX11_init_83 : decode cX11_init 83 = .ok (.newarray .long, 2) := wn_at gdX11_init_83 0 rfl
theorem dX11_init_85 : decode cX11_init 85 = .ok (.putfield 38, 3) := wn_at gdX11_init_83 1 rfl
theorem dX11_init_88 : decode cX11_init 88 = .ok (.aload_n 0, 1) := wn_at gdX11_init_83 2 rfl
theorem dX11_init_89 : decode cX11_init 89 = .ok (.bipush 8, 2) := wn_at gdX11_init_83 3 rfl
theorem dX11_init_91 : decode cX11_init 91 = .ok (.newarray .long, 2) := wn_at gdX11_init_83 4 rfl
theorem dX11_init_93 : decode cX11_init 93 = .ok (.putfield 42, 3) := wn_at gdX11_init_83 5 rfl
theorem dX11_init_96 : decode cX11_init 96 = .ok (.aload_n 0, 1) := wn_at gdX11_init_83 6 rfl
theorem dX11_init_97 : decode cX11_init 97 = .ok (.sipush 158, 3) := wn_at gdX11_init_83 7 rfl
theorem dX11_init_100 : decode cX11_init 100 = .ok (.newarray .int, 2) := wn_at gdX11_init_83 8 rfl
theorem dX11_init_102 : decode cX11_init 102 = .ok (.putfield 45, 3) := wn_at gdX11_init_83 9 rfl
theorem gdX11_init_105 : ∀ e ∈ ([(105, .aload_n 0, 1), (106, .bipush 8, 2), (108, .newarray .long, 2), (110, .putfield 48, 3), (113, .aload_n 0, 1), (114, .sipush 158, 3), (117, .newarray .int, 2), (119, .putfield 51, 3), (122, .aload_n 0, 1), (123, .bipush 8, 2)] : List (Nat × Instr × Nat)), decode cX11_init e.1 = .ok e.2 := wn_all _ 105 (by decide +kernel)
theorem dX11_init_105 : decode cX11_init 105 = .ok (.aload_n 0, 1) := wn_at gdX11_init_105 0 rfl
theorem dX11_init_106 : decode cX11_init 106 = .ok (.bipush 8, 2) := wn_at gdX11_init_105 1 rfl
theorem dX11_init_108 : decode cX11_init 108 = .ok (.newarray .long, 2) := wn_at gdX11_init_105 2 rfl
theorem dX11_init_110 : decode cX11_init 110 = .ok (.putfield 48, 3) := wn_at gdX11_init_105 3 rfl
theorem dX11_init_113 : decode cX11_init 113 = .ok (.aload_n 0, 1) := wn_at gdX11_init_105 4 rfl
theorem dX11_init_114 : decode cX11_init 114 = .ok (.sipush 158, 3) := wn_at gdX11_init_105 5 rfl
theorem dX11_init_117 : decode cX11_init 117 = .ok (.newarray .int, 2) := wn_at gdX11_init_105 6 rfl
theorem dX11_init_119 : decode cX11_init 119 = .ok (.putfield 51, 3) := wn_at gdX11_init_105 7 rfl
theorem dX11_init_122 : decode cX11_init 122 = .ok (.aload_n 0, 1) := wn_at gdX11_init_105 8 rfl
theorem dX11_init_123 : decode cX11_init 123 = .ok (.bipush 8, 2) := wn_at gdX11_init_105 9 rfl
theorem gdX11_init_125 : ∀ e ∈ ([(125, .newarray .long, 2), (127, .putfield 54, 3), (130, .aload_n 0, 1), (131, .bipush 100, 2), (133, .newarray .long, 2), (135, .putfield 57, 3), (138, .aload_n 0, 1), (139, .sipush 1210, 3), (142, .newarray .long, 2), (144, .putfield 60, 3)] : List (Nat × Instr × Nat)), decode cX11_init e.1 = .ok e.2 := wn_all _ 125 (by decide +kernel)
theorem dX11_init_125 : decode cX11_init 125 = .ok (.newarray .long, 2) := wn_at gdX11_init_125 0 rfl
theorem dX11_init_127 : decode cX11_init 127 = .ok (.putfield 54, 3) := wn_at gdX11_init_125 1 rfl
theorem dX11_init_130 : decode cX11_init 130 = .ok (.aload_n 0, 1) := wn_at gdX11_init_125 2 rfl
theorem dX11_init_131 : decode cX11_init 131 = .ok (.bipush 100, 2) := wn_at gdX11_init_125 3 rfl
theorem dX11_init_133 : decode cX11_init 133 = .ok (.newarray .long, 2) := wn_at gdX11_init_125 4 rfl
theorem dX11_init_135 : decode cX11_init 135 = .ok (.putfield 57, 3) := wn_at gdX11_init_125 5 rfl
theorem dX11_init_138 : decode cX11_init 138 = .ok (.aload_n 0, 1) := wn_at gdX11_init_125 6 rfl
theorem dX11_init_139 : decode cX11_init 139 = .ok (.sipush 1210, 3) := wn_at gdX11_init_125 7 rfl
theorem dX11_init_142 : decode cX11_init 142 = .ok (.newarray .long, 2) := wn_at gdX11_init_125 8 rfl
theorem dX11_init_144 : decode cX11_init 144 = .ok (.putfield 60, 3) := wn_at gdX11_init_125 9 rfl
theorem gdX11_init_147 : ∀ e ∈ ([(147, .aload_n 0, 1), (148, .bipush 10, 2), (150, .newarray .boolean, 2), (152, .putfield 63, 3), (155, .aload_n 0, 1), (156, .sipush 4001, 3), (159, .newarray .int, 2), (161, .putfield 67, 3), (164, .aload_n 0, 1), (165, .sipush 4001, 3)] : List (Nat × Instr × Nat)), decode cX11_init e.1 = .ok e.2 := wn_all _ 147 (by decide +kernel)
theorem dX11_init_147 : decode cX11_init 147 = .ok (.aload_n 0, 1) := wn_at gdX11_init_147 0 rfl
theorem dX11_init_148 : decode cX11_init 148 = .ok (.bipush 10, 2) := wn_at gdX11_init_147 1 rfl
theorem dX11_init_150 : decode cX11_init 150 = .ok (.newarray .boolean, 2) := wn_at gdX11_init_147 2 rfl
theorem dX11_init_152 : decode cX11_init 152 = .ok (.putfield 63, 3) := wn_at gdX11_init_147 3 rfl
theorem dX11_init_155 : decode cX11_init 155 = .ok (.aload_n 0, 1) := wn_at gdX11_init_147 4 rfl
theorem dX11_init_156 : decode cX11_init 156 = .ok (.sipush 4001, 3) := wn_at gdX11_init_147 5 rfl
theorem dX11_init_159 : decode cX11_init 159 = .ok (.newarray .int, 2) := wn_at gdX11_init_147 6 rfl
theorem dX11_init_161 : decode cX11_init 161 = .ok (.putfield 67, 3) := wn_at gdX11_init_147 7 rfl
theorem dX11_init_164 : decode cX11_init 164 = .ok (.aload_n 0, 1) := wn_at gdX11_init_147 8 rfl
theorem dX11_init_165 : decode cX11_init 165 = .ok (.sipush 4001, 3) := wn_at gdX11_init_147 9 rfl
theorem gdX11_init_168 : ∀ e ∈ ([(168, .newarray .int, 2), (170, .putfield 70, 3), (173, .aload_n 0, 1), (174, .sipush 4001, 3), (177, .newarray .long, 2), (179, .putfield 73, 3), (182, .aload_n 0, 1), (183, .sipush 4001, 3), (186, .newarray .int, 2), (188, .putfield 76, 3)] : List (Nat × Instr × Nat)), decode cX11_init e.1 = .ok e.2 := wn_all _ 168 (by decide +kernel)
theorem dX11_init_168 : decode cX11_init 168 = .ok (.newarray .int, 2) := wn_at gdX11_init_168 0 rfl
theorem dX11_init_170 : decode cX11_init 170 = .ok (.putfield 70, 3) := wn_at gdX11_init_168 1 rfl
theorem dX11_init_173 : decode cX11_init 173 = .ok (.aload_n 0, 1) := wn_at gdX11_init_168 2 rfl
theorem dX11_init_174 : decode cX11_init 174 = .ok (.sipush 4001, 3) := wn_at gdX11_init_168 3 rfl
theorem dX11_init_177 : decode cX11_init 177 = .ok (.newarray .long, 2) := wn_at gdX11_init_168 4 rfl
theorem dX11_init_179 : decode cX11_init 179 = .ok (.putfield 73, 3) := wn_at gdX11_init_168 5 rfl
theorem dX11_init_182 : decode cX11_init 182 = .ok (.aload_n 0, 1) := wn_at gdX11_init_168 6 rfl
theorem dX11_init_183 : decode cX11_init 183 = .ok (.sipush 4001, 3) := wn_at gdX11_init_168 7 rfl
theorem dX11_init_186 : decode cX11_init 186 = .ok (.newarray .int, 2) := wn_at gdX11_init_168 8 rfl
theorem dX11_init_188 : decode cX11_init 188 = .ok (.putfield 76, 3) := wn_at gdX11_init_168 9 rfl
theorem gdX11_init_191 : ∀ e ∈ ([(191, .aload_n 0, 1), (192, .sipush 632, 3), (195, .newarray .int, 2), (197, .putfield 79, 3), (200, .aload_n 0, 1), (201, .bipush 32, 2), (203, .newarray .long, 2), (205, .putfield 82, 3), (208, .aload_n 0, 1), (209, .iconst 4, 1)] : List (Nat × Instr × Nat)), decode cX11_init e.1 = .ok e.2 := wn_all _ 191 (by decide +kernel)
theorem dX11_init_191 : decode cX11_init 191 = .ok (.aload_n 0, 1) := wn_at gdX11_init_191 0 rfl
theorem dX11_init_192 : decode cX11_init 192 = .ok (.sipush 632, 3) := wn_at gdX11_init_191 1 rfl
theorem dX11_init_195 : decode cX11_init 195 = .ok (.newarray .int, 2) := wn_at gdX11_init_191 2 rfl
theorem dX11_init_197 : decode cX11_init 197 = .ok (.putfield 79, 3) := wn_at gdX11_init_191 3 rfl
theorem dX11_init_200 : decode cX11_init 200 = .ok (.aload_n 0, 1) := wn_at gdX11_init_191 4 rfl
theorem dX11_init_201 : decode cX11_init 201 = .ok (.bipush 32, 2) := wn_at gdX11_init_191 5 rfl
theorem dX11_init_203 : decode cX11_init 203 = .ok (.newarray .long, 2) := wn_at gdX11_init_191 6 rfl
theorem dX11_init_205 : decode cX11_init 205 = .ok (.putfield 82, 3) := wn_at gdX11_init_191 7 rfl
theorem dX11_init_208 : decode cX11_init 208 = .ok (.aload_n 0, 1) := wn_at gdX11_init_191 8 rfl
theorem dX11_init_209 : decode cX11_init 209 = .ok (.iconst 4, 1) := wn_at gdX11_init_191 9 rfl
theorem gdX11_init_210 : ∀ e ∈ ([(210, .newarray .boolean, 2), (212, .putfield 85, 3), (215, .return_, 1)] : List (Nat × Instr × Nat)), decode cX11_init e.1 = .ok e.2 := wn_all _ 210 (by decide +kernel)
theorem dX11_init_210 : decode cX11_init 210 = .ok (.newarray .boolean, 2) := wn_at gdX11_init_210 0 rfl
theorem dX11_init_212 : decode cX11_init 212 = .ok (.putfield 85, 3) := wn_at gdX11_init_210 1 rfl
theorem dX11_init_215 : decode cX11_init 215 = .ok (.return_, 1) := wn_at gdX11_init_210 2 rfl
theorem gdX11_in_0 : ∀ e ∈ ([(0, .lload_n 0, 1), (1, .lload_n 2, 1), (2, .lcmp, 1), (3, .ifCond .lt 14, 3), (6, .lload_n 0, 1), (7, .lload 4, 2), (9, .lcmp, 1), (10, .ifCond .gt 7, 3), (13, .iconst 1, 1), (14, .goto 4, 3)] : List (Nat × Instr × Nat)), decode cX11_in e.1 = .ok e.2 := wn_all _ 0 (by decide +kernel)
theorem dX11_in_0 : decode cX11_in 0 = .ok (.lload_n 0, 1) := wn_at gdX11_in_0 0 rfl
theorem dX11_in_1 : decode cX11_in 1 = .ok (.lload_n 2, 1) := wn_at gdX11_in_0 1 rfl
theorem dX11_in_2 : decode cX11_in 2 = .ok (.lcmp, 1) := wn_at gdX11_in_0 2 rfl
theorem dX11_in_3 : decode cX11_in 3 = .ok (.ifCond .lt 14, 3) := wn_at gdX11_in_0 3 rfl
theorem dX11_in_6 : decode cX11_in 6 = .ok (.lload_n 0, 1) := wn_at gdX11_in_0 4 rfl
theorem dX11_in_7 : decode cX11_in 7 = .ok (.lload 4, 2) := wn_at gdX11_in_0 5 rfl
theorem dX11_in_9 : decode cX11_in 9 = .ok (.lcmp, 1) := wn_at gdX11_in_0 6 rfl
theorem dX11_in_10 : decode cX11_in 10 = .ok (.ifCond .gt 7, 3) := wn_at gdX11_in_0 7 rfl
theorem dX11_in_13 : decode cX11_in 13 = .ok (.iconst 1, 1) := wn_at gdX11_in_0 8 rfl
theorem dX11_in_14 : decode cX11_in 14 = .ok (.goto 4, 3) := wn_at gdX11_in_0 9 rfl
theorem gdX11_in_17 : ∀ e ∈ ([(17, .iconst 0, 1), (18, .ireturn, 1)] : List (Nat × Instr × Nat)), decode cX11_in e.1 = .ok e.2 := wn_all _ 17 (by decide +kernel)
theorem dX11_in_17 : decode cX11_in 17 = .ok (.iconst 0, 1) := wn_at gdX11_in_17 0 rfl
theorem dX11_in_18 : decode cX11_in 18 = .ok (.ireturn, 1) := wn_at gdX11_in_17 1 rfl
theorem gdX11_divisor_0 : ∀ e ∈ ([(0, .lload_n 0, 1), (1, .lconst 0, 1), (2, .lcmp, 1), (3, .ifCond .ge 8, 3), (6, .lload_n 0, 1), (7, .lneg, 1), (8, .goto 4, 3), (11, .lload_n 0, 1), (12, .lstore 4, 2), (14, .lload_n 2, 1)] : List (Nat × Instr × Nat)), decode cX11_divisor e.1 = .ok e.2 := wn_all _ 0 (by decide +kernel)
theorem dX11_divisor_0 : decode cX11_divisor 0 = .ok (.lload_n 0, 1) := wn_at gdX11_divisor_0 0 rfl
theorem dX11_divisor_1 : decode cX11_divisor 1 = .ok (.lconst 0, 1) := wn_at gdX11_divisor_0 1 rfl
theorem dX11_divisor_2 : decode cX11_divisor 2 = .ok (.lcmp, 1) := wn_at gdX11_divisor_0 2 rfl
theorem dX11_divisor_3 : decode cX11_divisor 3 = .ok (.ifCond .ge 8, 3) := wn_at gdX11_divisor_0 3 rfl
theorem dX11_divisor_6 : decode cX11_divisor 6 = .ok (.lload_n 0, 1) := wn_at gdX11_divisor_0 4 rfl
theorem dX11_divisor_7 : decode cX11_divisor 7 = .ok (.lneg, 1) := wn_at gdX11_divisor_0 5 rfl
theorem dX11_divisor_8 : decode cX11_divisor 8 = .ok (.goto 4, 3) := wn_at gdX11_divisor_0 6 rfl
theorem dX11_divisor_11 : decode cX11_divisor 11 = .ok (.lload_n 0, 1) := wn_at gdX11_divisor_0 7 rfl
theorem dX11_divisor_12 : decode cX11_divisor 12 = .ok (.lstore 4, 2) := wn_at gdX11_divisor_0 8 rfl
theorem dX11_divisor_14 : decode cX11_divisor 14 = .ok (.lload_n 2, 1) := wn_at gdX11_divisor_0 9 rfl
theorem gdX11_divisor_15 : ∀ e ∈ ([(15, .lconst 0, 1), (16, .lcmp, 1), (17, .ifCond .ge 8, 3), (20, .lload_n 2, 1), (21, .lneg, 1), (22, .goto 4, 3), (25, .lload_n 2, 1), (26, .lstore 6, 2), (28, .lload 6, 2), (30, .lconst 0, 1)] : List (Nat × Instr × Nat)), decode cX11_divisor e.1 = .ok e.2 := wn_all _ 15 (by decide +kernel)
theorem dX11_divisor_15 : decode cX11_divisor 15 = .ok (.lconst 0, 1) := wn_at gdX11_divisor_15 0 rfl
theorem dX11_divisor_16 : decode cX11_divisor 16 = .ok (.lcmp, 1) := wn_at gdX11_divisor_15 1 rfl
theorem dX11_divisor_17 : decode cX11_divisor 17 = .ok (.ifCond .ge 8, 3) := wn_at gdX11_divisor_15 2 rfl
theorem dX11_divisor_20 : decode cX11_divisor 20 = .ok (.lload_n 2, 1) := wn_at gdX11_divisor_15 3 rfl
theorem dX11_divisor_21 : decode cX11_divisor 21 = .ok (.lneg, 1) := wn_at gdX11_divisor_15 4 rfl
theorem dX11_divisor_22 : decode cX11_divisor 22 = .ok (.goto 4, 3) := wn_at gdX11_divisor_15 5 rfl
theorem dX11_divisor_25 : decode cX11_divisor 25 = .ok (.lload_n 2, 1) := wn_at gdX11_divisor_15 6 rfl
theorem dX11_divisor_26 : decode cX11_divisor 26 = .ok (.lstore 6, 2) := wn_at gdX11_divisor_15 7 rfl
theorem dX11_divisor_28 : decode cX11_divisor 28 = .ok (.lload 6, 2) := wn_at gdX11_divisor_15 8 rfl
theorem dX11_divisor_30 : decode cX11_divisor 30 = .ok (.lconst 0, 1) := wn_at gdX11_divisor_15 9 rfl
theorem gdX11_divisor_31 : ∀ e ∈ ([(31, .lcmp, 1), (32, .ifCond .eq 21, 3), (35, .lload 4, 2), (37, .lload 6, 2), (39, .lrem, 1), (40, .lstore 8, 2), (42, .lload 6, 2), (44, .lstore 4, 2), (46, .lload 8, 2), (48, .lstore 6, 2)] : List (Nat × Instr × Nat)), decode cX11_divisor e.1 = .ok e.2 := wn_all _ 31 (by decide +kernel)
theorem dX11_divisor_31 : decode cX11_divisor 31 = .ok (.lcmp, 1) := wn_at gdX11_divisor_31 0 rfl
theorem dX11_divisor_32 : decode cX11_divisor 32 = .ok (.ifCond .eq 21, 3) := wn_at gdX11_divisor_31 1 rfl
theorem dX11_divisor_35 : decode cX11_divisor 35 = .ok (.lload 4, 2) := wn_at gdX11_divisor_31 2 rfl
theorem dX11_divisor_37 : decode cX11_divisor 37 = .ok (.lload 6, 2) := wn_at gdX11_divisor_31 3 rfl
theorem dX11_divisor_39 : decode cX11_divisor 39 = .ok (.lrem, 1) := wn_at gdX11_divisor_31 4 rfl
theorem dX11_divisor_40 : decode cX11_divisor 40 = .ok (.lstore 8, 2) := wn_at gdX11_divisor_31 5 rfl
theorem dX11_divisor_42 : decode cX11_divisor 42 = .ok (.lload 6, 2) := wn_at gdX11_divisor_31 6 rfl
theorem dX11_divisor_44 : decode cX11_divisor 44 = .ok (.lstore 4, 2) := wn_at gdX11_divisor_31 7 rfl
theorem dX11_divisor_46 : decode cX11_divisor 46 = .ok (.lload 8, 2) := wn_at gdX11_divisor_31 8 rfl
theorem dX11_divisor_48 : decode cX11_divisor 48 = .ok (.lstore 6, 2) := wn_at gdX11_divisor_31 9 rfl
theorem gdX11_divisor_50 : ∀ e ∈ ([(50, .goto (-22), 3), (53, .lload 4, 2), (55, .lreturn, 1)] : List (Nat × Instr × Nat)), decode cX11_divisor e.1 = .ok e.2 := wn_all _ 50 (by decide +kernel)
theorem dX11_divisor_50 : decode cX11_divisor 50 = .ok (.goto (-22), 3) := wn_at gdX11_divisor_50 0 rfl
theorem dX11_divisor_53 : decode cX11_divisor 53 = .ok (.lload 4, 2) := wn_at gdX11_divisor_50 1 rfl
theorem dX11_divisor_55 : decode cX11_divisor 55 = .ok (.lreturn, 1) := wn_at gdX11_divisor_50 2 rfl
theorem gdX11_lowest_0 : ∀ e ∈ ([(0, .lload_n 0, 1), (1, .lload_n 2, 1), (2, .invokestatic 88, 3), (5, .lstore 5, 2), (7, .iload 4, 2), (9, .ifCond .ne 10, 3), (12, .lload_n 0, 1), (13, .lload 5, 2), (15, .ldiv, 1), (16, .goto 7, 3)] : List (Nat × Instr × Nat)), decode cX11_lowest e.1 = .ok e.2 := wn_all _ 0 (by decide +kernel)
theorem dX11_lowest_0 : decode cX11_lowest 0 = .ok (.lload_n 0, 1) := wn_at gdX11_lowest_0 0 rfl
theorem dX11_lowest_1 : decode cX11_lowest 1 = .ok (.lload_n 2, 1) := wn_at gdX11_lowest_0 1 rfl
theorem dX11_lowest_2 : decode cX11_lowest 2 = .ok (.invokestatic 88, 3) := wn_at gdX11_lowest_0 2 rfl
theorem dX11_lowest_5 : decode cX11_lowest 5 = .ok (.lstore 5, 2) := wn_at gdX11_lowest_0 3 rfl
theorem dX11_lowest_7 : decode cX11_lowest 7 = .ok (.iload 4, 2) := wn_at gdX11_lowest_0 4 rfl
theorem dX11_lowest_9 : decode cX11_lowest 9 = .ok (.ifCond .ne 10, 3) := wn_at gdX11_lowest_0 5 rfl
theorem dX11_lowest_12 : decode cX11_lowest 12 = .ok (.lload_n 0, 1) := wn_at gdX11_lowest_0 6 rfl
theorem dX11_lowest_13 : decode cX11_lowest 13 = .ok (.lload 5, 2) := wn_at gdX11_lowest_0 7 rfl
theorem dX11_lowest_15 : decode cX11_lowest 15 = .ok (.ldiv, 1) := wn_at gdX11_lowest_0 8 rfl
theorem dX11_lowest_16 : decode cX11_lowest 16 = .ok (.goto 7, 3) := wn_at gdX11_lowest_0 9 rfl
theorem gdX11_lowest_19 : ∀ e ∈ ([(19, .lload_n 2, 1), (20, .lload 5, 2), (22, .ldiv, 1), (23, .lreturn, 1)] : List (Nat × Instr × Nat)), decode cX11_lowest e.1 = .ok e.2 := wn_all _ 19 (by decide +kernel)
theorem dX11_lowest_19 : decode cX11_lowest 19 = .ok (.lload_n 2, 1) := wn_at gdX11_lowest_19 0 rfl
theorem dX11_lowest_20 : decode cX11_lowest 20 = .ok (.lload 5, 2) := wn_at gdX11_lowest_19 1 rfl
theorem dX11_lowest_22 : decode cX11_lowest 22 = .ok (.ldiv, 1) := wn_at gdX11_lowest_19 2 rfl
theorem dX11_lowest_23 : decode cX11_lowest 23 = .ok (.lreturn, 1) := wn_at gdX11_lowest_19 3 rfl
theorem gdX11_four_0 : ∀ e ∈ ([(0, .bipush 24, 2), (2, .istore_n 2, 1), (3, .iload_n 2, 1), (4, .ifCond .lt 32, 3), (7, .aload_n 0, 1), (8, .getfield 7, 3), (11, .aload_n 0, 1), (12, .getfield 92, 3), (15, .iload_n 1, 1), (16, .iload_n 2, 1)] : List (Nat × Instr × Nat)), decode cX11_four e.1 = .ok e.2 := wn_all _ 0 (by decide +kernel)
theorem dX11_four_0 : decode cX11_four 0 = .ok (.bipush 24, 2) := wn_at gdX11_four_0 0 rfl
theorem dX11_four_2 : decode cX11_four 2 = .ok (.istore_n 2, 1) := wn_at gdX11_four_0 1 rfl
theorem dX11_four_3 : decode cX11_four 3 = .ok (.iload_n 2, 1) := wn_at gdX11_four_0 2 rfl
theorem dX11_four_4 : decode cX11_four 4 = .ok (.ifCond .lt 32, 3) := wn_at gdX11_four_0 3 rfl
theorem dX11_four_7 : decode cX11_four 7 = .ok (.aload_n 0, 1) := wn_at gdX11_four_0 4 rfl
theorem dX11_four_8 : decode cX11_four 8 = .ok (.getfield 7, 3) := wn_at gdX11_four_0 5 rfl
theorem dX11_four_11 : decode cX11_four 11 = .ok (.aload_n 0, 1) := wn_at gdX11_four_0 6 rfl
theorem dX11_four_12 : decode cX11_four 12 = .ok (.getfield 92, 3) := wn_at gdX11_four_0 7 rfl
theorem dX11_four_15 : decode cX11_four 15 = .ok (.iload_n 1, 1) := wn_at gdX11_four_0 8 rfl
theorem dX11_four_16 : decode cX11_four 16 = .ok (.iload_n 2, 1) := wn_at gdX11_four_0 9 rfl
theorem gdX11_four_17 : ∀ e ∈ ([(17, .ishr, 1), (18, .i2b, 1), (19, .bastore, 1), (20, .aload_n 0, 1), (21, .dup, 1), (22, .getfield 92, 3), (25, .iconst 1, 1), (26, .iadd, 1), (27, .putfield 92, 3), (30, .iinc 2 (-8), 3)] : List (Nat × Instr × Nat)), decode cX11_four e.1 = .ok e.2 := wn_all _ 17 (by decide +kernel)
theorem dX11_four_17 : decode cX11_four 17 = .ok (.ishr, 1) := wn_at gdX11_four_17 0 rfl
theorem dX11_four_18 : decode cX11_four 18 = .ok (.i2b, 1) := wn_at gdX11_four_17 1 rfl
theorem dX11_four_19 : decode cX11_four 19 = .ok (.bastore, 1) := wn_at gdX11_four_17 2 rfl
theorem dX11_four_20 : decode cX11_four 20 = .ok (.aload_n 0, 1) := wn_at gdX11_four_17 3 rfl
theorem dX11_four_21 : decode cX11_four 21 = .ok (.dup, 1) := wn_at gdX11_four_17 4 rfl
theorem dX11_four_22 : decode cX11_four 22 = .ok (.getfield 92, 3) := wn_at gdX11_four_17 5 rfl
theorem dX11_four_25 : decode cX11_four 25 = .ok (.iconst 1, 1) := wn_at gdX11_four_17 6 rfl
theorem dX11_four_26 : decode cX11_four 26 = .ok (.iadd, 1) := wn_at gdX11_four_17 7 rfl
theorem dX11_four_27 : decode cX11_four 27 = .ok (.putfield 92, 3) := wn_at gdX11_four_17 8 rfl
theorem dX11_four_30 : decode cX11_four 30 = .ok (.iinc 2 (-8), 3) := wn_at gdX11_four_17 9 rfl
theorem gdX11_four_33 : ∀ e ∈ ([(33, .goto (-30), 3), (36, .return_, 1)] : List (Nat × Instr × Nat)), decode cX11_four e.1 = .ok e.2 := wn_all _ 33 (by decide +kernel)
theorem dX11_four_33 : decode cX11_four 33 = .ok (.goto (-30), 3) := wn_at gdX11_four_33 0 rfl
theorem dX11_four_36 : decode cX11_four 36 = .ok (.return_, 1) := wn_at gdX11_four_33 1 rfl
theorem gdX11_feed_0 : ∀ e ∈ ([(0, .aload_n 0, 1), (1, .getfield 92, 3), (4, .bipush 20, 2), (6, .iadd, 1), (7, .sipush 400, 3), (10, .if_icmp .le 5, 3), (13, .iconst (-1), 1), (14, .ireturn, 1), (15, .aload_n 0, 1), (16, .iload_n 1, 1)] : List (Nat × Instr × Nat)), decode cX11_feed e.1 = .ok e.2 := wn_all _ 0 (by decide +kernel)
theorem dX11_feed_0 : decode cX11_feed 0 = .ok (.aload_n 0, 1) := wn_at gdX11_feed_0 0 rfl
theorem dX11_feed_1 : decode cX11_feed 1 = .ok (.getfield 92, 3) := wn_at gdX11_feed_0 1 rfl
theorem dX11_feed_4 : decode cX11_feed 4 = .ok (.bipush 20, 2) := wn_at gdX11_feed_0 2 rfl
theorem dX11_feed_6 : decode cX11_feed 6 = .ok (.iadd, 1) := wn_at gdX11_feed_0 3 rfl
theorem dX11_feed_7 : decode cX11_feed 7 = .ok (.sipush 400, 3) := wn_at gdX11_feed_0 4 rfl
theorem dX11_feed_10 : decode cX11_feed 10 = .ok (.if_icmp .le 5, 3) := wn_at gdX11_feed_0 5 rfl
theorem dX11_feed_13 : decode cX11_feed 13 = .ok (.iconst (-1), 1) := wn_at gdX11_feed_0 6 rfl
theorem dX11_feed_14 : decode cX11_feed 14 = .ok (.ireturn, 1) := wn_at gdX11_feed_0 7 rfl
theorem dX11_feed_15 : decode cX11_feed 15 = .ok (.aload_n 0, 1) := wn_at gdX11_feed_0 8 rfl
theorem dX11_feed_16 : decode cX11_feed 16 = .ok (.iload_n 1, 1) := wn_at gdX11_feed_0 9 rfl
theorem gdX11_feed_17 : ∀ e ∈ ([(17, .invokevirtual 96, 3), (20, .aload_n 0, 1), (21, .iload_n 2, 1), (22, .invokevirtual 96, 3), (25, .aload_n 0, 1), (26, .iload_n 3, 1), (27, .invokevirtual 96, 3), (30, .aload_n 0, 1), (31, .iload 4, 2), (33, .invokevirtual 96, 3)] : List (Nat × Instr × Nat)), decode cX11_feed e.1 = .ok e.2 := wn_all _ 17 (by decide +kernel)
theorem dX11_feed_17 : decode cX11_feed 17 = .ok (.invokevirtual 96, 3) := wn_at gdX11_feed_17 0 rfl
theorem dX11_feed_20 : decode cX11_feed 20 = .ok (.aload_n 0, 1) := wn_at gdX11_feed_17 1 rfl
theorem dX11_feed_21 : decode cX11_feed 21 = .ok (.iload_n 2, 1) := wn_at gdX11_feed_17 2 rfl
theorem dX11_feed_22 : decode cX11_feed 22 = .ok (.invokevirtual 96, 3) := wn_at gdX11_feed_17 3 rfl
theorem dX11_feed_25 : decode cX11_feed 25 = .ok (.aload_n 0, 1) := wn_at gdX11_feed_17 4 rfl
theorem dX11_feed_26 : decode cX11_feed 26 = .ok (.iload_n 3, 1) := wn_at gdX11_feed_17 5 rfl
theorem dX11_feed_27 : decode cX11_feed 27 = .ok (.invokevirtual 96, 3) := wn_at gdX11_feed_17 6 rfl
theorem dX11_feed_30 : decode cX11_feed 30 = .ok (.aload_n 0, 1) := wn_at gdX11_feed_17 7 rfl
theorem dX11_feed_31 : decode cX11_feed 31 = .ok (.iload 4, 2) := wn_at gdX11_feed_17 8 rfl
theorem dX11_feed_33 : decode cX11_feed 33 = .ok (.invokevirtual 96, 3) := wn_at gdX11_feed_17 9 rfl
theorem gdX11_feed_36 : ∀ e ∈ ([(36, .aload_n 0, 1), (37, .iload 5, 2), (39, .invokevirtual 96, 3), (42, .aload_n 0, 1), (43, .getfield 92, 3), (46, .ireturn, 1)] : List (Nat × Instr × Nat)), decode cX11_feed e.1 = .ok e.2 := wn_all _ 36 (by decide +kernel)
theorem dX11_feed_36 : decode cX11_feed 36 = .ok (.aload_n 0, 1) := wn_at gdX11_feed_36 0 rfl
theorem dX11_feed_37 : decode cX11_feed 37 = .ok (.iload 5, 2) := wn_at gdX11_feed_36 1 rfl
theorem dX11_feed_39 : decode cX11_feed 39 = .ok (.invokevirtual 96, 3) := wn_at gdX11_feed_36 2 rfl
theorem dX11_feed_42 : decode cX11_feed 42 = .ok (.aload_n 0, 1) := wn_at gdX11_feed_36 3 rfl
theorem dX11_feed_43 : decode cX11_feed 43 = .ok (.getfield 92, 3) := wn_at gdX11_feed_36 4 rfl
theorem dX11_feed_46 : decode cX11_feed 46 = .ok (.ireturn, 1) := wn_at gdX11_feed_36 5 rfl
theorem gdX11_end_0 : ∀ e ∈ ([(0, .iload_n 1, 1), (1, .ifCond .lt 11, 3), (4, .iload_n 1, 1), (5, .aload_n 0, 1), (6, .getfield 92, 3), (9, .if_icmp .le 5, 3), (12, .iconst (-1), 1), (13, .ireturn, 1), (14, .aload_n 0, 1), (15, .iload_n 1, 1)] : List (Nat × Instr × Nat)), decode cX11_end e.1 = .ok e.2 := wn_all _ 0 (by decide +kernel)
theorem dX11_end_0 : decode cX11_end 0 = .ok (.iload_n 1, 1) := wn_at gdX11_end_0 0 rfl
theorem dX11_end_1 : decode cX11_end 1 = .ok (.ifCond .lt 11, 3) := wn_at gdX11_end_0 1 rfl
theorem dX11_end_4 : decode cX11_end 4 = .ok (.iload_n 1, 1) := wn_at gdX11_end_0 2 rfl
theorem dX11_end_5 : decode cX11_end 5 = .ok (.aload_n 0, 1) := wn_at gdX11_end_0 3 rfl
theorem dX11_end_6 : decode cX11_end 6 = .ok (.getfield 92, 3) := wn_at gdX11_end_0 4 rfl
theorem dX11_end_9 : decode cX11_end 9 = .ok (.if_icmp .le 5, 3) := wn_at gdX11_end_0 5 rfl
theorem dX11_end_12 : decode cX11_end 12 = .ok (.iconst (-1), 1) := wn_at gdX11_end_0 6 rfl
theorem dX11_end_13 : decode cX11_end 13 = .ok (.ireturn, 1) := wn_at gdX11_end_0 7 rfl
theorem dX11_end_14 : decode cX11_end 14 = .ok (.aload_n 0, 1) := wn_at gdX11_end_0 8 rfl
theorem dX11_end_15 : decode cX11_end 15 = .ok (.iload_n 1, 1) := wn_at gdX11_end_0 9 rfl
theorem gdX11_end_16 : ∀ e ∈ ([(16, .putfield 92, 3), (19, .iload_n 1, 1), (20, .ireturn, 1)] : List (Nat × Instr × Nat)), decode cX11_end e.1 = .ok e.2 := wn_all _ 16 (by decide +kernel)
theorem dX11_end_16 : decode cX11_end 16 = .ok (.putfield 92, 3) := wn_at gdX11_end_16 0 rfl
theorem dX11_end_19 : decode cX11_end 19 = .ok (.iload_n 1, 1) := wn_at gdX11_end_16 1 rfl
theorem dX11_end_20 : decode cX11_end 20 = .ok (.ireturn, 1) := wn_at gdX11_end_16 2 rfl
theorem gdX11_fails_0 : ∀ e ∈ ([(0, .aload_n 0, 1), (1, .getfield 100, 3), (4, .ifCond .ne 15, 3), (7, .aload_n 0, 1), (8, .iconst 1, 1), (9, .bipush 8, 2), (11, .iload_n 2, 1), (12, .imul, 1), (13, .iadd, 1), (14, .iload_n 1, 1)] : List (Nat × Instr × Nat)), decode cX11_fails e.1 = .ok e.2 := wn_all _ 0 (by decide +kernel)
theorem dX11_fails_0 : decode cX11_fails 0 = .ok (.aload_n 0, 1) := wn_at gdX11_fails_0 0 rfl
theorem dX11_fails_1 : decode cX11_fails 1 = .ok (.getfield 100, 3) := wn_at gdX11_fails_0 1 rfl
theorem dX11_fails_4 : decode cX11_fails 4 = .ok (.ifCond .ne 15, 3) := wn_at gdX11_fails_0 2 rfl
theorem dX11_fails_7 : decode cX11_fails 7 = .ok (.aload_n 0, 1) := wn_at gdX11_fails_0 3 rfl
theorem dX11_fails_8 : decode cX11_fails 8 = .ok (.iconst 1, 1) := wn_at gdX11_fails_0 4 rfl
theorem dX11_fails_9 : decode cX11_fails 9 = .ok (.bipush 8, 2) := wn_at gdX11_fails_0 5 rfl
theorem dX11_fails_11 : decode cX11_fails 11 = .ok (.iload_n 2, 1) := wn_at gdX11_fails_0 6 rfl
theorem dX11_fails_12 : decode cX11_fails 12 = .ok (.imul, 1) := wn_at gdX11_fails_0 7 rfl
theorem dX11_fails_13 : decode cX11_fails 13 = .ok (.iadd, 1) := wn_at gdX11_fails_0 8 rfl
theorem dX11_fails_14 : decode cX11_fails 14 = .ok (.iload_n 1, 1) := wn_at gdX11_fails_0 9 rfl
theorem gdX11_fails_15 : ∀ e ∈ ([(15, .iadd, 1), (16, .putfield 100, 3), (19, .iconst 0, 1), (20, .ireturn, 1)] : List (Nat × Instr × Nat)), decode cX11_fails e.1 = .ok e.2 := wn_all _ 15 (by decide +kernel)
theorem dX11_fails_15 : decode cX11_fails 15 = .ok (.iadd, 1) := wn_at gdX11_fails_15 0 rfl
theorem dX11_fails_16 : decode cX11_fails 16 = .ok (.putfield 100, 3) := wn_at gdX11_fails_15 1 rfl
theorem dX11_fails_19 : decode cX11_fails 19 = .ok (.iconst 0, 1) := wn_at gdX11_fails_15 2 rfl
theorem dX11_fails_20 : decode cX11_fails 20 = .ok (.ireturn, 1) := wn_at gdX11_fails_15 3 rfl
theorem gdX11_see_0 : ∀ e ∈ ([(0, .aload_n 0, 1), (1, .getfield 103, 3), (4, .aload_n 0, 1), (5, .getfield 92, 3), (8, .if_icmp .ge 30, 3), (11, .aload_n 0, 1), (12, .getfield 7, 3), (15, .aload_n 0, 1), (16, .getfield 103, 3), (19, .baload, 1)] : List (Nat × Instr × Nat)), decode cX11_see e.1 = .ok e.2 := wn_all _ 0 (by decide +kernel)
theorem dX11_see_0 : decode cX11_see 0 = .ok (.aload_n 0, 1) := wn_at gdX11_see_0 0 rfl
theorem dX11_see_1 : decode cX11_see 1 = .ok (.getfield 103, 3) := wn_at gdX11_see_0 1 rfl
theorem dX11_see_4 : decode cX11_see 4 = .ok (.aload_n 0, 1) := wn_at gdX11_see_0 2 rfl
theorem dX11_see_5 : decode cX11_see 5 = .ok (.getfield 92, 3) := wn_at gdX11_see_0 3 rfl
theorem dX11_see_8 : decode cX11_see 8 = .ok (.if_icmp .ge 30, 3) := wn_at gdX11_see_0 4 rfl
theorem dX11_see_11 : decode cX11_see 11 = .ok (.aload_n 0, 1) := wn_at gdX11_see_0 5 rfl
theorem dX11_see_12 : decode cX11_see 12 = .ok (.getfield 7, 3) := wn_at gdX11_see_0 6 rfl
theorem dX11_see_15 : decode cX11_see 15 = .ok (.aload_n 0, 1) := wn_at gdX11_see_0 7 rfl
theorem dX11_see_16 : decode cX11_see 16 = .ok (.getfield 103, 3) := wn_at gdX11_see_0 8 rfl
theorem dX11_see_19 : decode cX11_see 19 = .ok (.baload, 1) := wn_at gdX11_see_0 9 rfl
theorem gdX11_see_20 : ∀ e ∈ ([(20, .bipush 32, 2), (22, .if_icmp .ne 16, 3), (25, .aload_n 0, 1), (26, .dup, 1), (27, .getfield 103, 3), (30, .iconst 1, 1), (31, .iadd, 1), (32, .putfield 103, 3), (35, .goto (-35), 3), (38, .aload_n 0, 1)] : List (Nat × Instr × Nat)), decode cX11_see e.1 = .ok e.2 := wn_all _ 20 (by decide +kernel)
theorem dX11_see_20 : decode cX11_see 20 = .ok (.bipush 32, 2) := wn_at gdX11_see_20 0 rfl
theorem dX11_see_22 : decode cX11_see 22 = .ok (.if_icmp .ne 16, 3) := wn_at gdX11_see_20 1 rfl
theorem dX11_see_25 : decode cX11_see 25 = .ok (.aload_n 0, 1) := wn_at gdX11_see_20 2 rfl
theorem dX11_see_26 : decode cX11_see 26 = .ok (.dup, 1) := wn_at gdX11_see_20 3 rfl
theorem dX11_see_27 : decode cX11_see 27 = .ok (.getfield 103, 3) := wn_at gdX11_see_20 4 rfl
theorem dX11_see_30 : decode cX11_see 30 = .ok (.iconst 1, 1) := wn_at gdX11_see_20 5 rfl
theorem dX11_see_31 : decode cX11_see 31 = .ok (.iadd, 1) := wn_at gdX11_see_20 6 rfl
theorem dX11_see_32 : decode cX11_see 32 = .ok (.putfield 103, 3) := wn_at gdX11_see_20 7 rfl
theorem dX11_see_35 : decode cX11_see 35 = .ok (.goto (-35), 3) := wn_at gdX11_see_20 8 rfl
theorem dX11_see_38 : decode cX11_see 38 = .ok (.aload_n 0, 1) := wn_at gdX11_see_20 9 rfl
theorem gdX11_see_39 : ∀ e ∈ ([(39, .getfield 103, 3), (42, .aload_n 0, 1), (43, .getfield 92, 3), (46, .if_icmp .ge 19, 3), (49, .aload_n 0, 1), (50, .getfield 7, 3), (53, .aload_n 0, 1), (54, .getfield 103, 3), (57, .baload, 1), (58, .sipush 255, 3)] : List (Nat × Instr × Nat)), decode cX11_see e.1 = .ok e.2 := wn_all _ 39 (by decide +kernel)
theorem dX11_see_39 : decode cX11_see 39 = .ok (.getfield 103, 3) := wn_at gdX11_see_39 0 rfl
theorem dX11_see_42 : decode cX11_see 42 = .ok (.aload_n 0, 1) := wn_at gdX11_see_39 1 rfl
theorem dX11_see_43 : decode cX11_see 43 = .ok (.getfield 92, 3) := wn_at gdX11_see_39 2 rfl
theorem dX11_see_46 : decode cX11_see 46 = .ok (.if_icmp .ge 19, 3) := wn_at gdX11_see_39 3 rfl
theorem dX11_see_49 : decode cX11_see 49 = .ok (.aload_n 0, 1) := wn_at gdX11_see_39 4 rfl
theorem dX11_see_50 : decode cX11_see 50 = .ok (.getfield 7, 3) := wn_at gdX11_see_39 5 rfl
theorem dX11_see_53 : decode cX11_see 53 = .ok (.aload_n 0, 1) := wn_at gdX11_see_39 6 rfl
theorem dX11_see_54 : decode cX11_see 54 = .ok (.getfield 103, 3) := wn_at gdX11_see_39 7 rfl
theorem dX11_see_57 : decode cX11_see 57 = .ok (.baload, 1) := wn_at gdX11_see_39 8 rfl
theorem dX11_see_58 : decode cX11_see 58 = .ok (.sipush 255, 3) := wn_at gdX11_see_39 9 rfl
theorem gdX11_see_61 : ∀ e ∈ ([(61, .iand, 1), (62, .goto 4, 3), (65, .iconst (-1), 1), (66, .ireturn, 1)] : List (Nat × Instr × Nat)), decode cX11_see e.1 = .ok e.2 := wn_all _ 61 (by decide +kernel)
theorem dX11_see_61 : decode cX11_see 61 = .ok (.iand, 1) := wn_at gdX11_see_61 0 rfl
theorem dX11_see_62 : decode cX11_see 62 = .ok (.goto 4, 3) := wn_at gdX11_see_61 1 rfl
theorem dX11_see_65 : decode cX11_see 65 = .ok (.iconst (-1), 1) := wn_at gdX11_see_61 2 rfl
theorem dX11_see_66 : decode cX11_see 66 = .ok (.ireturn, 1) := wn_at gdX11_see_61 3 rfl
theorem gdX11_isDigit_0 : ∀ e ∈ ([(0, .iload_n 1, 1), (1, .aload_n 0, 1), (2, .getfield 92, 3), (5, .if_icmp .ge 29, 3), (8, .aload_n 0, 1), (9, .getfield 7, 3), (12, .iload_n 1, 1), (13, .baload, 1), (14, .bipush 48, 2), (16, .if_icmp .lt 18, 3)] : List (Nat × Instr × Nat)), decode cX11_isDigit e.1 = .ok e.2 := wn_all _ 0 (by decide +kernel)
theorem dX11_isDigit_0 : decode cX11_isDigit 0 = .ok (.iload_n 1, 1) := wn_at gdX11_isDigit_0 0 rfl
theorem dX11_isDigit_1 : decode cX11_isDigit 1 = .ok (.aload_n 0, 1) := wn_at gdX11_isDigit_0 1 rfl
theorem dX11_isDigit_2 : decode cX11_isDigit 2 = .ok (.getfield 92, 3) := wn_at gdX11_isDigit_0 2 rfl
theorem dX11_isDigit_5 : decode cX11_isDigit 5 = .ok (.if_icmp .ge 29, 3) := wn_at gdX11_isDigit_0 3 rfl
theorem dX11_isDigit_8 : decode cX11_isDigit 8 = .ok (.aload_n 0, 1) := wn_at gdX11_isDigit_0 4 rfl
theorem dX11_isDigit_9 : decode cX11_isDigit 9 = .ok (.getfield 7, 3) := wn_at gdX11_isDigit_0 5 rfl
theorem dX11_isDigit_12 : decode cX11_isDigit 12 = .ok (.iload_n 1, 1) := wn_at gdX11_isDigit_0 6 rfl
theorem dX11_isDigit_13 : decode cX11_isDigit 13 = .ok (.baload, 1) := wn_at gdX11_isDigit_0 7 rfl
theorem dX11_isDigit_14 : decode cX11_isDigit 14 = .ok (.bipush 48, 2) := wn_at gdX11_isDigit_0 8 rfl
theorem dX11_isDigit_16 : decode cX11_isDigit 16 = .ok (.if_icmp .lt 18, 3) := wn_at gdX11_isDigit_0 9 rfl
theorem gdX11_isDigit_19 : ∀ e ∈ ([(19, .aload_n 0, 1), (20, .getfield 7, 3), (23, .iload_n 1, 1), (24, .baload, 1), (25, .bipush 57, 2), (27, .if_icmp .gt 7, 3), (30, .iconst 1, 1), (31, .goto 4, 3), (34, .iconst 0, 1), (35, .ireturn, 1)] : List (Nat × Instr × Nat)), decode cX11_isDigit e.1 = .ok e.2 := wn_all _ 19 (by decide +kernel)
theorem dX11_isDigit_19 : decode cX11_isDigit 19 = .ok (.aload_n 0, 1) := wn_at gdX11_isDigit_19 0 rfl
theorem dX11_isDigit_20 : decode cX11_isDigit 20 = .ok (.getfield 7, 3) := wn_at gdX11_isDigit_19 1 rfl
theorem dX11_isDigit_23 : decode cX11_isDigit 23 = .ok (.iload_n 1, 1) := wn_at gdX11_isDigit_19 2 rfl
theorem dX11_isDigit_24 : decode cX11_isDigit 24 = .ok (.baload, 1) := wn_at gdX11_isDigit_19 3 rfl
theorem dX11_isDigit_25 : decode cX11_isDigit 25 = .ok (.bipush 57, 2) := wn_at gdX11_isDigit_19 4 rfl
theorem dX11_isDigit_27 : decode cX11_isDigit 27 = .ok (.if_icmp .gt 7, 3) := wn_at gdX11_isDigit_19 5 rfl
theorem dX11_isDigit_30 : decode cX11_isDigit 30 = .ok (.iconst 1, 1) := wn_at gdX11_isDigit_19 6 rfl
theorem dX11_isDigit_31 : decode cX11_isDigit 31 = .ok (.goto 4, 3) := wn_at gdX11_isDigit_19 7 rfl
theorem dX11_isDigit_34 : decode cX11_isDigit 34 = .ok (.iconst 0, 1) := wn_at gdX11_isDigit_19 8 rfl
theorem dX11_isDigit_35 : decode cX11_isDigit 35 = .ok (.ireturn, 1) := wn_at gdX11_isDigit_19 9 rfl
theorem gdX11_isLetter_0 : ∀ e ∈ ([(0, .iload_n 1, 1), (1, .aload_n 0, 1), (2, .getfield 92, 3), (5, .if_icmp .ge 29, 3), (8, .aload_n 0, 1), (9, .getfield 7, 3), (12, .iload_n 1, 1), (13, .baload, 1), (14, .bipush 97, 2), (16, .if_icmp .lt 18, 3)] : List (Nat × Instr × Nat)), decode cX11_isLetter e.1 = .ok e.2 := wn_all _ 0 (by decide +kernel)
theorem dX11_isLetter_0 : decode cX11_isLetter 0 = .ok (.iload_n 1, 1) := wn_at gdX11_isLetter_0 0 rfl
theorem dX11_isLetter_1 : decode cX11_isLetter 1 = .ok (.aload_n 0, 1) := wn_at gdX11_isLetter_0 1 rfl
theorem dX11_isLetter_2 : decode cX11_isLetter 2 = .ok (.getfield 92, 3) := wn_at gdX11_isLetter_0 2 rfl
theorem dX11_isLetter_5 : decode cX11_isLetter 5 = .ok (.if_icmp .ge 29, 3) := wn_at gdX11_isLetter_0 3 rfl
theorem dX11_isLetter_8 : decode cX11_isLetter 8 = .ok (.aload_n 0, 1) := wn_at gdX11_isLetter_0 4 rfl
theorem dX11_isLetter_9 : decode cX11_isLetter 9 = .ok (.getfield 7, 3) := wn_at gdX11_isLetter_0 5 rfl
theorem dX11_isLetter_12 : decode cX11_isLetter 12 = .ok (.iload_n 1, 1) := wn_at gdX11_isLetter_0 6 rfl
theorem dX11_isLetter_13 : decode cX11_isLetter 13 = .ok (.baload, 1) := wn_at gdX11_isLetter_0 7 rfl
theorem dX11_isLetter_14 : decode cX11_isLetter 14 = .ok (.bipush 97, 2) := wn_at gdX11_isLetter_0 8 rfl
theorem dX11_isLetter_16 : decode cX11_isLetter 16 = .ok (.if_icmp .lt 18, 3) := wn_at gdX11_isLetter_0 9 rfl
theorem gdX11_isLetter_19 : ∀ e ∈ ([(19, .aload_n 0, 1), (20, .getfield 7, 3), (23, .iload_n 1, 1), (24, .baload, 1), (25, .bipush 122, 2), (27, .if_icmp .gt 7, 3), (30, .iconst 1, 1), (31, .goto 4, 3), (34, .iconst 0, 1), (35, .ireturn, 1)] : List (Nat × Instr × Nat)), decode cX11_isLetter e.1 = .ok e.2 := wn_all _ 19 (by decide +kernel)
theorem dX11_isLetter_19 : decode cX11_isLetter 19 = .ok (.aload_n 0, 1) := wn_at gdX11_isLetter_19 0 rfl
theorem dX11_isLetter_20 : decode cX11_isLetter 20 = .ok (.getfield 7, 3) := wn_at gdX11_isLetter_19 1 rfl
theorem dX11_isLetter_23 : decode cX11_isLetter 23 = .ok (.iload_n 1, 1) := wn_at gdX11_isLetter_19 2 rfl
theorem dX11_isLetter_24 : decode cX11_isLetter 24 = .ok (.baload, 1) := wn_at gdX11_isLetter_19 3 rfl
theorem dX11_isLetter_25 : decode cX11_isLetter 25 = .ok (.bipush 122, 2) := wn_at gdX11_isLetter_19 4 rfl
theorem dX11_isLetter_27 : decode cX11_isLetter 27 = .ok (.if_icmp .gt 7, 3) := wn_at gdX11_isLetter_19 5 rfl
theorem dX11_isLetter_30 : decode cX11_isLetter 30 = .ok (.iconst 1, 1) := wn_at gdX11_isLetter_19 6 rfl
theorem dX11_isLetter_31 : decode cX11_isLetter 31 = .ok (.goto 4, 3) := wn_at gdX11_isLetter_19 7 rfl
theorem dX11_isLetter_34 : decode cX11_isLetter 34 = .ok (.iconst 0, 1) := wn_at gdX11_isLetter_19 8 rfl
theorem dX11_isLetter_35 : decode cX11_isLetter 35 = .ok (.ireturn, 1) := wn_at gdX11_isLetter_19 9 rfl
theorem gdX11_isWord_0 : ∀ e ∈ ([(0, .aload_n 0, 1), (1, .invokevirtual 106, 3), (4, .pop, 1), (5, .lconst 0, 1), (6, .lstore_n 3, 1), (7, .iconst 0, 1), (8, .istore 5, 2), (10, .aload_n 0, 1), (11, .aload_n 0, 1), (12, .getfield 103, 3)] : List (Nat × Instr × Nat)), decode cX11_isWord e.1 = .ok e.2 := wn_all _ 0 (by decide +kernel)
theorem dX11_isWord_0 : decode cX11_isWord 0 = .ok (.aload_n 0, 1) := wn_at gdX11_isWord_0 0 rfl
theorem dX11_isWord_1 : decode cX11_isWord 1 = .ok (.invokevirtual 106, 3) := wn_at gdX11_isWord_0 1 rfl
theorem dX11_isWord_4 : decode cX11_isWord 4 = .ok (.pop, 1) := wn_at gdX11_isWord_0 2 rfl
theorem dX11_isWord_5 : decode cX11_isWord 5 = .ok (.lconst 0, 1) := wn_at gdX11_isWord_0 3 rfl
theorem dX11_isWord_6 : decode cX11_isWord 6 = .ok (.lstore_n 3, 1) := wn_at gdX11_isWord_0 4 rfl
theorem dX11_isWord_7 : decode cX11_isWord 7 = .ok (.iconst 0, 1) := wn_at gdX11_isWord_0 5 rfl
theorem dX11_isWord_8 : decode cX11_isWord 8 = .ok (.istore 5, 2) := wn_at gdX11_isWord_0 6 rfl
theorem dX11_isWord_10 : decode cX11_isWord 10 = .ok (.aload_n 0, 1) := wn_at gdX11_isWord_0 7 rfl
theorem dX11_isWord_11 : decode cX11_isWord 11 = .ok (.aload_n 0, 1) := wn_at gdX11_isWord_0 8 rfl
theorem dX11_isWord_12 : decode cX11_isWord 12 = .ok (.getfield 103, 3) := wn_at gdX11_isWord_0 9 rfl
theorem gdX11_isWord_15 : ∀ e ∈ ([(15, .iload 5, 2), (17, .iadd, 1), (18, .invokevirtual 110, 3), (21, .ifCond .eq 35, 3), (24, .iload 5, 2), (26, .bipush 8, 2), (28, .if_icmp .ge 22, 3), (31, .lload_n 3, 1), (32, .bipush 8, 2), (34, .lshl, 1)] : List (Nat × Instr × Nat)), decode cX11_isWord e.1 = .ok e.2 := wn_all _ 15 (by decide +kernel)
theorem dX11_isWord_15 : decode cX11_isWord 15 = .ok (.iload 5, 2) := wn_at gdX11_isWord_15 0 rfl
theorem dX11_isWord_17 : decode cX11_isWord 17 = .ok (.iadd, 1) := wn_at gdX11_isWord_15 1 rfl
theorem dX11_isWord_18 : decode cX11_isWord 18 = .ok (.invokevirtual 110, 3) := wn_at gdX11_isWord_15 2 rfl
theorem dX11_isWord_21 : decode cX11_isWord 21 = .ok (.ifCond .eq 35, 3) := wn_at gdX11_isWord_15 3 rfl
theorem dX11_isWord_24 : decode cX11_isWord 24 = .ok (.iload 5, 2) := wn_at gdX11_isWord_15 4 rfl
theorem dX11_isWord_26 : decode cX11_isWord 26 = .ok (.bipush 8, 2) := wn_at gdX11_isWord_15 5 rfl
theorem dX11_isWord_28 : decode cX11_isWord 28 = .ok (.if_icmp .ge 22, 3) := wn_at gdX11_isWord_15 6 rfl
theorem dX11_isWord_31 : decode cX11_isWord 31 = .ok (.lload_n 3, 1) := wn_at gdX11_isWord_15 7 rfl
theorem dX11_isWord_32 : decode cX11_isWord 32 = .ok (.bipush 8, 2) := wn_at gdX11_isWord_15 8 rfl
theorem dX11_isWord_34 : decode cX11_isWord 34 = .ok (.lshl, 1) := wn_at gdX11_isWord_15 9 rfl
theorem gdX11_isWord_35 : ∀ e ∈ ([(35, .aload_n 0, 1), (36, .getfield 7, 3), (39, .aload_n 0, 1), (40, .getfield 103, 3), (43, .iload 5, 2), (45, .iadd, 1), (46, .baload, 1), (47, .i2l, 1), (48, .lor, 1), (49, .lstore_n 3, 1)] : List (Nat × Instr × Nat)), decode cX11_isWord e.1 = .ok e.2 := wn_all _ 35 (by decide +kernel)
theorem dX11_isWord_35 : decode cX11_isWord 35 = .ok (.aload_n 0, 1) := wn_at gdX11_isWord_35 0 rfl
theorem dX11_isWord_36 : decode cX11_isWord 36 = .ok (.getfield 7, 3) := wn_at gdX11_isWord_35 1 rfl
theorem dX11_isWord_39 : decode cX11_isWord 39 = .ok (.aload_n 0, 1) := wn_at gdX11_isWord_35 2 rfl
theorem dX11_isWord_40 : decode cX11_isWord 40 = .ok (.getfield 103, 3) := wn_at gdX11_isWord_35 3 rfl
theorem dX11_isWord_43 : decode cX11_isWord 43 = .ok (.iload 5, 2) := wn_at gdX11_isWord_35 4 rfl
theorem dX11_isWord_45 : decode cX11_isWord 45 = .ok (.iadd, 1) := wn_at gdX11_isWord_35 5 rfl
theorem dX11_isWord_46 : decode cX11_isWord 46 = .ok (.baload, 1) := wn_at gdX11_isWord_35 6 rfl
theorem dX11_isWord_47 : decode cX11_isWord 47 = .ok (.i2l, 1) := wn_at gdX11_isWord_35 7 rfl
theorem dX11_isWord_48 : decode cX11_isWord 48 = .ok (.lor, 1) := wn_at gdX11_isWord_35 8 rfl
theorem dX11_isWord_49 : decode cX11_isWord 49 = .ok (.lstore_n 3, 1) := wn_at gdX11_isWord_35 9 rfl
theorem gdX11_isWord_50 : ∀ e ∈ ([(50, .iinc 5 1, 3), (53, .goto (-43), 3), (56, .iload 5, 2), (58, .ifCond .le 20, 3), (61, .iload 5, 2), (63, .bipush 9, 2), (65, .if_icmp .ge 13, 3), (68, .lload_n 3, 1), (69, .lload_n 1, 1), (70, .lcmp, 1)] : List (Nat × Instr × Nat)), decode cX11_isWord e.1 = .ok e.2 := wn_all _ 50 (by decide +kernel)
theorem dX11_isWord_50 : decode cX11_isWord 50 = .ok (.iinc 5 1, 3) := wn_at gdX11_isWord_50 0 rfl
theorem dX11_isWord_53 : decode cX11_isWord 53 = .ok (.goto (-43), 3) := wn_at gdX11_isWord_50 1 rfl
theorem dX11_isWord_56 : decode cX11_isWord 56 = .ok (.iload 5, 2) := wn_at gdX11_isWord_50 2 rfl
theorem dX11_isWord_58 : decode cX11_isWord 58 = .ok (.ifCond .le 20, 3) := wn_at gdX11_isWord_50 3 rfl
theorem dX11_isWord_61 : decode cX11_isWord 61 = .ok (.iload 5, 2) := wn_at gdX11_isWord_50 4 rfl
theorem dX11_isWord_63 : decode cX11_isWord 63 = .ok (.bipush 9, 2) := wn_at gdX11_isWord_50 5 rfl
theorem dX11_isWord_65 : decode cX11_isWord 65 = .ok (.if_icmp .ge 13, 3) := wn_at gdX11_isWord_50 6 rfl
theorem dX11_isWord_68 : decode cX11_isWord 68 = .ok (.lload_n 3, 1) := wn_at gdX11_isWord_50 7 rfl
theorem dX11_isWord_69 : decode cX11_isWord 69 = .ok (.lload_n 1, 1) := wn_at gdX11_isWord_50 8 rfl
theorem dX11_isWord_70 : decode cX11_isWord 70 = .ok (.lcmp, 1) := wn_at gdX11_isWord_50 9 rfl
theorem gdX11_isWord_71 : ∀ e ∈ ([(71, .ifCond .ne 7, 3), (74, .iconst 1, 1), (75, .goto 4, 3), (78, .iconst 0, 1), (79, .ireturn, 1)] : List (Nat × Instr × Nat)), decode cX11_isWord e.1 = .ok e.2 := wn_all _ 71 (by decide +kernel)
theorem dX11_isWord_71 : decode cX11_isWord 71 = .ok (.ifCond .ne 7, 3) := wn_at gdX11_isWord_71 0 rfl
theorem dX11_isWord_74 : decode cX11_isWord 74 = .ok (.iconst 1, 1) := wn_at gdX11_isWord_71 1 rfl
theorem dX11_isWord_75 : decode cX11_isWord 75 = .ok (.goto 4, 3) := wn_at gdX11_isWord_71 2 rfl
theorem dX11_isWord_78 : decode cX11_isWord 78 = .ok (.iconst 0, 1) := wn_at gdX11_isWord_71 3 rfl
theorem dX11_isWord_79 : decode cX11_isWord 79 = .ok (.ireturn, 1) := wn_at gdX11_isWord_71 4 rfl
theorem gdX11_passWord_0 : ∀ e ∈ ([(0, .aload_n 0, 1), (1, .aload_n 0, 1), (2, .getfield 103, 3), (5, .invokevirtual 110, 3), (8, .ifCond .eq 16, 3), (11, .aload_n 0, 1), (12, .dup, 1), (13, .getfield 103, 3), (16, .iconst 1, 1), (17, .iadd, 1)] : List (Nat × Instr × Nat)), decode cX11_passWord e.1 = .ok e.2 := wn_all _ 0 (by decide +kernel)
theorem dX11_passWord_0 : decode cX11_passWord 0 = .ok (.aload_n 0, 1) := wn_at gdX11_passWord_0 0 rfl
theorem dX11_passWord_1 : decode cX11_passWord 1 = .ok (.aload_n 0, 1) := wn_at gdX11_passWord_0 1 rfl
theorem dX11_passWord_2 : decode cX11_passWord 2 = .ok (.getfield 103, 3) := wn_at gdX11_passWord_0 2 rfl
theorem dX11_passWord_5 : decode cX11_passWord 5 = .ok (.invokevirtual 110, 3) := wn_at gdX11_passWord_0 3 rfl
theorem dX11_passWord_8 : decode cX11_passWord 8 = .ok (.ifCond .eq 16, 3) := wn_at gdX11_passWord_0 4 rfl
theorem dX11_passWord_11 : decode cX11_passWord 11 = .ok (.aload_n 0, 1) := wn_at gdX11_passWord_0 5 rfl
theorem dX11_passWord_12 : decode cX11_passWord 12 = .ok (.dup, 1) := wn_at gdX11_passWord_0 6 rfl
theorem dX11_passWord_13 : decode cX11_passWord 13 = .ok (.getfield 103, 3) := wn_at gdX11_passWord_0 7 rfl
theorem dX11_passWord_16 : decode cX11_passWord 16 = .ok (.iconst 1, 1) := wn_at gdX11_passWord_0 8 rfl
theorem dX11_passWord_17 : decode cX11_passWord 17 = .ok (.iadd, 1) := wn_at gdX11_passWord_0 9 rfl
theorem gdX11_passWord_18 : ∀ e ∈ ([(18, .putfield 103, 3), (21, .goto (-21), 3), (24, .return_, 1)] : List (Nat × Instr × Nat)), decode cX11_passWord e.1 = .ok e.2 := wn_all _ 18 (by decide +kernel)
theorem dX11_passWord_18 : decode cX11_passWord 18 = .ok (.putfield 103, 3) := wn_at gdX11_passWord_18 0 rfl
theorem dX11_passWord_21 : decode cX11_passWord 21 = .ok (.goto (-21), 3) := wn_at gdX11_passWord_18 1 rfl
theorem dX11_passWord_24 : decode cX11_passWord 24 = .ok (.return_, 1) := wn_at gdX11_passWord_18 2 rfl
theorem gdX11_takesWord_0 : ∀ e ∈ ([(0, .aload_n 0, 1), (1, .lload_n 1, 1), (2, .invokevirtual 114, 3), (5, .ifCond .ne 5, 3), (8, .iconst 0, 1), (9, .ireturn, 1), (10, .aload_n 0, 1), (11, .invokevirtual 118, 3), (14, .iconst 1, 1), (15, .ireturn, 1)] : List (Nat × Instr × Nat)), decode cX11_takesWord e.1 = .ok e.2 := wn_all _ 0 (by decide +kernel)
theorem dX11_takesWord_0 : decode cX11_takesWord 0 = .ok (.aload_n 0, 1) := wn_at gdX11_takesWord_0 0 rfl
theorem dX11_takesWord_1 : decode cX11_takesWord 1 = .ok (.lload_n 1, 1) := wn_at gdX11_takesWord_0 1 rfl
theorem dX11_takesWord_2 : decode cX11_takesWord 2 = .ok (.invokevirtual 114, 3) := wn_at gdX11_takesWord_0 2 rfl
theorem dX11_takesWord_5 : decode cX11_takesWord 5 = .ok (.ifCond .ne 5, 3) := wn_at gdX11_takesWord_0 3 rfl
theorem dX11_takesWord_8 : decode cX11_takesWord 8 = .ok (.iconst 0, 1) := wn_at gdX11_takesWord_0 4 rfl
theorem dX11_takesWord_9 : decode cX11_takesWord 9 = .ok (.ireturn, 1) := wn_at gdX11_takesWord_0 5 rfl
theorem dX11_takesWord_10 : decode cX11_takesWord 10 = .ok (.aload_n 0, 1) := wn_at gdX11_takesWord_0 6 rfl
theorem dX11_takesWord_11 : decode cX11_takesWord 11 = .ok (.invokevirtual 118, 3) := wn_at gdX11_takesWord_0 7 rfl
theorem dX11_takesWord_14 : decode cX11_takesWord 14 = .ok (.iconst 1, 1) := wn_at gdX11_takesWord_0 8 rfl
theorem dX11_takesWord_15 : decode cX11_takesWord 15 = .ok (.ireturn, 1) := wn_at gdX11_takesWord_0 9 rfl
theorem gdX11_numberHere_0 : ∀ e ∈ ([(0, .aload_n 0, 1), (1, .invokevirtual 106, 3), (4, .pop, 1), (5, .aload_n 0, 1), (6, .aload_n 0, 1), (7, .getfield 103, 3), (10, .invokevirtual 121, 3), (13, .ifCond .ne 13, 3), (16, .aload_n 0, 1), (17, .iconst 0, 1)] : List (Nat × Instr × Nat)), decode cX11_numberHere e.1 = .ok e.2 := wn_all _ 0 (by decide +kernel)
theorem dX11_numberHere_0 : decode cX11_numberHere 0 = .ok (.aload_n 0, 1) := wn_at gdX11_numberHere_0 0 rfl
theorem dX11_numberHere_1 : decode cX11_numberHere 1 = .ok (.invokevirtual 106, 3) := wn_at gdX11_numberHere_0 1 rfl
theorem dX11_numberHere_4 : decode cX11_numberHere 4 = .ok (.pop, 1) := wn_at gdX11_numberHere_0 2 rfl
theorem dX11_numberHere_5 : decode cX11_numberHere 5 = .ok (.aload_n 0, 1) := wn_at gdX11_numberHere_0 3 rfl
theorem dX11_numberHere_6 : decode cX11_numberHere 6 = .ok (.aload_n 0, 1) := wn_at gdX11_numberHere_0 4 rfl
theorem dX11_numberHere_7 : decode cX11_numberHere 7 = .ok (.getfield 103, 3) := wn_at gdX11_numberHere_0 5 rfl
theorem dX11_numberHere_10 : decode cX11_numberHere 10 = .ok (.invokevirtual 121, 3) := wn_at gdX11_numberHere_0 6 rfl
theorem dX11_numberHere_13 : decode cX11_numberHere 13 = .ok (.ifCond .ne 13, 3) := wn_at gdX11_numberHere_0 7 rfl
theorem dX11_numberHere_16 : decode cX11_numberHere 16 = .ok (.aload_n 0, 1) := wn_at gdX11_numberHere_0 8 rfl
theorem dX11_numberHere_17 : decode cX11_numberHere 17 = .ok (.iconst 0, 1) := wn_at gdX11_numberHere_0 9 rfl
theorem gdX11_numberHere_18 : ∀ e ∈ ([(18, .aload_n 0, 1), (19, .getfield 103, 3), (22, .invokevirtual 124, 3), (25, .ireturn, 1), (26, .aload_n 0, 1), (27, .getfield 103, 3), (30, .istore_n 3, 1), (31, .iconst 0, 1), (32, .istore 4, 2), (34, .aload_n 0, 1)] : List (Nat × Instr × Nat)), decode cX11_numberHere e.1 = .ok e.2 := wn_all _ 18 (by decide +kernel)
theorem dX11_numberHere_18 : decode cX11_numberHere 18 = .ok (.aload_n 0, 1) := wn_at gdX11_numberHere_18 0 rfl
theorem dX11_numberHere_19 : decode cX11_numberHere 19 = .ok (.getfield 103, 3) := wn_at gdX11_numberHere_18 1 rfl
theorem dX11_numberHere_22 : decode cX11_numberHere 22 = .ok (.invokevirtual 124, 3) := wn_at gdX11_numberHere_18 2 rfl
theorem dX11_numberHere_25 : decode cX11_numberHere 25 = .ok (.ireturn, 1) := wn_at gdX11_numberHere_18 3 rfl
theorem dX11_numberHere_26 : decode cX11_numberHere 26 = .ok (.aload_n 0, 1) := wn_at gdX11_numberHere_18 4 rfl
theorem dX11_numberHere_27 : decode cX11_numberHere 27 = .ok (.getfield 103, 3) := wn_at gdX11_numberHere_18 5 rfl
theorem dX11_numberHere_30 : decode cX11_numberHere 30 = .ok (.istore_n 3, 1) := wn_at gdX11_numberHere_18 6 rfl
theorem dX11_numberHere_31 : decode cX11_numberHere 31 = .ok (.iconst 0, 1) := wn_at gdX11_numberHere_18 7 rfl
theorem dX11_numberHere_32 : decode cX11_numberHere 32 = .ok (.istore 4, 2) := wn_at gdX11_numberHere_18 8 rfl
theorem dX11_numberHere_34 : decode cX11_numberHere 34 = .ok (.aload_n 0, 1) := wn_at gdX11_numberHere_18 9 rfl
theorem gdX11_numberHere_35 : ∀ e ∈ ([(35, .aload_n 0, 1), (36, .getfield 103, 3), (39, .invokevirtual 121, 3), (42, .ifCond .eq 46, 3), (45, .aload_n 0, 1), (46, .getfield 103, 3), (49, .iload_n 3, 1), (50, .isub, 1), (51, .iconst 5, 1), (52, .if_icmp .ge 23, 3)] : List (Nat × Instr × Nat)), decode cX11_numberHere e.1 = .ok e.2 := wn_all _ 35 (by decide +kernel)
theorem dX11_numberHere_35 : decode cX11_numberHere 35 = .ok (.aload_n 0, 1) := wn_at gdX11_numberHere_35 0 rfl
theorem dX11_numberHere_36 : decode cX11_numberHere 36 = .ok (.getfield 103, 3) := wn_at gdX11_numberHere_35 1 rfl
theorem dX11_numberHere_39 : decode cX11_numberHere 39 = .ok (.invokevirtual 121, 3) := wn_at gdX11_numberHere_35 2 rfl
theorem dX11_numberHere_42 : decode cX11_numberHere 42 = .ok (.ifCond .eq 46, 3) := wn_at gdX11_numberHere_35 3 rfl
theorem dX11_numberHere_45 : decode cX11_numberHere 45 = .ok (.aload_n 0, 1) := wn_at gdX11_numberHere_35 4 rfl
theorem dX11_numberHere_46 : decode cX11_numberHere 46 = .ok (.getfield 103, 3) := wn_at gdX11_numberHere_35 5 rfl
theorem dX11_numberHere_49 : decode cX11_numberHere 49 = .ok (.iload_n 3, 1) := wn_at gdX11_numberHere_35 6 rfl
theorem dX11_numberHere_50 : decode cX11_numberHere 50 = .ok (.isub, 1) := wn_at gdX11_numberHere_35 7 rfl
theorem dX11_numberHere_51 : decode cX11_numberHere 51 = .ok (.iconst 5, 1) := wn_at gdX11_numberHere_35 8 rfl
theorem dX11_numberHere_52 : decode cX11_numberHere 52 = .ok (.if_icmp .ge 23, 3) := wn_at gdX11_numberHere_35 9 rfl
theorem gdX11_numberHere_55 : ∀ e ∈ ([(55, .bipush 10, 2), (57, .iload 4, 2), (59, .imul, 1), (60, .aload_n 0, 1), (61, .getfield 7, 3), (64, .aload_n 0, 1), (65, .getfield 103, 3), (68, .baload, 1), (69, .iadd, 1), (70, .bipush 48, 2)] : List (Nat × Instr × Nat)), decode cX11_numberHere e.1 = .ok e.2 := wn_all _ 55 (by decide +kernel)
theorem dX11_numberHere_55 : decode cX11_numberHere 55 = .ok (.bipush 10, 2) := wn_at gdX11_numberHere_55 0 rfl
theorem dX11_numberHere_57 : decode cX11_numberHere 57 = .ok (.iload 4, 2) := wn_at gdX11_numberHere_55 1 rfl
theorem dX11_numberHere_59 : decode cX11_numberHere 59 = .ok (.imul, 1) := wn_at gdX11_numberHere_55 2 rfl
theorem dX11_numberHere_60 : decode cX11_numberHere 60 = .ok (.aload_n 0, 1) := wn_at gdX11_numberHere_55 3 rfl
theorem dX11_numberHere_61 : decode cX11_numberHere 61 = .ok (.getfield 7, 3) := wn_at gdX11_numberHere_55 4 rfl
theorem dX11_numberHere_64 : decode cX11_numberHere 64 = .ok (.aload_n 0, 1) := wn_at gdX11_numberHere_55 5 rfl
theorem dX11_numberHere_65 : decode cX11_numberHere 65 = .ok (.getfield 103, 3) := wn_at gdX11_numberHere_55 6 rfl
theorem dX11_numberHere_68 : decode cX11_numberHere 68 = .ok (.baload, 1) := wn_at gdX11_numberHere_55 7 rfl
theorem dX11_numberHere_69 : decode cX11_numberHere 69 = .ok (.iadd, 1) := wn_at gdX11_numberHere_55 8 rfl
theorem dX11_numberHere_70 : decode cX11_numberHere 70 = .ok (.bipush 48, 2) := wn_at gdX11_numberHere_55 9 rfl
theorem gdX11_numberHere_72 : ∀ e ∈ ([(72, .isub, 1), (73, .istore 4, 2), (75, .aload_n 0, 1), (76, .dup, 1), (77, .getfield 103, 3), (80, .iconst 1, 1), (81, .iadd, 1), (82, .putfield 103, 3), (85, .goto (-51), 3), (88, .aload_n 0, 1)] : List (Nat × Instr × Nat)), decode cX11_numberHere e.1 = .ok e.2 := wn_all _ 72 (by decide +kernel)
theorem dX11_numberHere_72 : decode cX11_numberHere 72 = .ok (.isub, 1) := wn_at gdX11_numberHere_72 0 rfl
theorem dX11_numberHere_73 : decode cX11_numberHere 73 = .ok (.istore 4, 2) := wn_at gdX11_numberHere_72 1 rfl
theorem dX11_numberHere_75 : decode cX11_numberHere 75 = .ok (.aload_n 0, 1) := wn_at gdX11_numberHere_72 2 rfl
theorem dX11_numberHere_76 : decode cX11_numberHere 76 = .ok (.dup, 1) := wn_at gdX11_numberHere_72 3 rfl
theorem dX11_numberHere_77 : decode cX11_numberHere 77 = .ok (.getfield 103, 3) := wn_at gdX11_numberHere_72 4 rfl
theorem dX11_numberHere_80 : decode cX11_numberHere 80 = .ok (.iconst 1, 1) := wn_at gdX11_numberHere_72 5 rfl
theorem dX11_numberHere_81 : decode cX11_numberHere 81 = .ok (.iadd, 1) := wn_at gdX11_numberHere_72 6 rfl
theorem dX11_numberHere_82 : decode cX11_numberHere 82 = .ok (.putfield 103, 3) := wn_at gdX11_numberHere_72 7 rfl
theorem dX11_numberHere_85 : decode cX11_numberHere 85 = .ok (.goto (-51), 3) := wn_at gdX11_numberHere_72 8 rfl
theorem dX11_numberHere_88 : decode cX11_numberHere 88 = .ok (.aload_n 0, 1) := wn_at gdX11_numberHere_72 9 rfl
theorem gdX11_numberHere_89 : ∀ e ∈ ([(89, .iload 4, 2), (91, .putfield 128, 3), (94, .aload_n 0, 1), (95, .getfield 103, 3), (98, .iload_n 3, 1), (99, .isub, 1), (100, .iconst 5, 1), (101, .if_icmp .gt 16, 3), (104, .iload 4, 2), (106, .i2l, 1)] : List (Nat × Instr × Nat)), decode cX11_numberHere e.1 = .ok e.2 := wn_all _ 89 (by decide +kernel)
theorem dX11_numberHere_89 : decode cX11_numberHere 89 = .ok (.iload 4, 2) := wn_at gdX11_numberHere_89 0 rfl
theorem dX11_numberHere_91 : decode cX11_numberHere 91 = .ok (.putfield 128, 3) := wn_at gdX11_numberHere_89 1 rfl
theorem dX11_numberHere_94 : decode cX11_numberHere 94 = .ok (.aload_n 0, 1) := wn_at gdX11_numberHere_89 2 rfl
theorem dX11_numberHere_95 : decode cX11_numberHere 95 = .ok (.getfield 103, 3) := wn_at gdX11_numberHere_89 3 rfl
theorem dX11_numberHere_98 : decode cX11_numberHere 98 = .ok (.iload_n 3, 1) := wn_at gdX11_numberHere_89 4 rfl
theorem dX11_numberHere_99 : decode cX11_numberHere 99 = .ok (.isub, 1) := wn_at gdX11_numberHere_89 5 rfl
theorem dX11_numberHere_100 : decode cX11_numberHere 100 = .ok (.iconst 5, 1) := wn_at gdX11_numberHere_89 6 rfl
theorem dX11_numberHere_101 : decode cX11_numberHere 101 = .ok (.if_icmp .gt 16, 3) := wn_at gdX11_numberHere_89 7 rfl
theorem dX11_numberHere_104 : decode cX11_numberHere 104 = .ok (.iload 4, 2) := wn_at gdX11_numberHere_89 8 rfl
theorem dX11_numberHere_106 : decode cX11_numberHere 106 = .ok (.i2l, 1) := wn_at gdX11_numberHere_89 9 rfl
theorem gdX11_numberHere_107 : ∀ e ∈ ([(107, .iload_n 1, 1), (108, .i2l, 1), (109, .iload_n 2, 1), (110, .i2l, 1), (111, .invokestatic 131, 3), (114, .ifCond .ne 12, 3), (117, .aload_n 0, 1), (118, .iconst 1, 1), (119, .iload_n 3, 1), (120, .invokevirtual 124, 3)] : List (Nat × Instr × Nat)), decode cX11_numberHere e.1 = .ok e.2 := wn_all _ 107 (by decide +kernel)
theorem dX11_numberHere_107 : decode cX11_numberHere 107 = .ok (.iload_n 1, 1) := wn_at gdX11_numberHere_107 0 rfl
theorem dX11_numberHere_108 : decode cX11_numberHere 108 = .ok (.i2l, 1) := wn_at gdX11_numberHere_107 1 rfl
theorem dX11_numberHere_109 : decode cX11_numberHere 109 = .ok (.iload_n 2, 1) := wn_at gdX11_numberHere_107 2 rfl
theorem dX11_numberHere_110 : decode cX11_numberHere 110 = .ok (.i2l, 1) := wn_at gdX11_numberHere_107 3 rfl
theorem dX11_numberHere_111 : decode cX11_numberHere 111 = .ok (.invokestatic 131, 3) := wn_at gdX11_numberHere_107 4 rfl
theorem dX11_numberHere_114 : decode cX11_numberHere 114 = .ok (.ifCond .ne 12, 3) := wn_at gdX11_numberHere_107 5 rfl
theorem dX11_numberHere_117 : decode cX11_numberHere 117 = .ok (.aload_n 0, 1) := wn_at gdX11_numberHere_107 6 rfl
theorem dX11_numberHere_118 : decode cX11_numberHere 118 = .ok (.iconst 1, 1) := wn_at gdX11_numberHere_107 7 rfl
theorem dX11_numberHere_119 : decode cX11_numberHere 119 = .ok (.iload_n 3, 1) := wn_at gdX11_numberHere_107 8 rfl
theorem dX11_numberHere_120 : decode cX11_numberHere 120 = .ok (.invokevirtual 124, 3) := wn_at gdX11_numberHere_107 9 rfl
theorem gdX11_numberHere_123 : ∀ e ∈ ([(123, .ifCond .eq 7, 3), (126, .iconst 1, 1), (127, .goto 4, 3), (130, .iconst 0, 1), (131, .ireturn, 1)] : List (Nat × Instr × Nat)), decode cX11_numberHere e.1 = .ok e.2 := wn_all _ 123 (by decide +kernel)
theorem dX11_numberHere_123 : decode cX11_numberHere 123 = .ok (.ifCond .eq 7, 3) := wn_at gdX11_numberHere_123 0 rfl
theorem dX11_numberHere_126 : decode cX11_numberHere 126 = .ok (.iconst 1, 1) := wn_at gdX11_numberHere_123 1 rfl
theorem dX11_numberHere_127 : decode cX11_numberHere 127 = .ok (.goto 4, 3) := wn_at gdX11_numberHere_123 2 rfl
theorem dX11_numberHere_130 : decode cX11_numberHere 130 = .ok (.iconst 0, 1) := wn_at gdX11_numberHere_123 3 rfl
theorem dX11_numberHere_131 : decode cX11_numberHere 131 = .ok (.ireturn, 1) := wn_at gdX11_numberHere_123 4 rfl
theorem gdX11_wordHere_0 : ∀ e ∈ ([(0, .aload_n 0, 1), (1, .ldc2_w 135, 3), (4, .invokevirtual 114, 3), (7, .ifCond .eq 5, 3), (10, .iconst 0, 1), (11, .ireturn, 1), (12, .aload_n 0, 1), (13, .ldc2_w 137, 3), (16, .invokevirtual 114, 3), (19, .ifCond .eq 5, 3)] : List (Nat × Instr × Nat)), decode cX11_wordHere e.1 = .ok e.2 := wn_all _ 0 (by decide +kernel)
theorem dX11_wordHere_0 : decode cX11_wordHere 0 = .ok (.aload_n 0, 1) := wn_at gdX11_wordHere_0 0 rfl
theorem dX11_wordHere_1 : decode cX11_wordHere 1 = .ok (.ldc2_w 135, 3) := wn_at gdX11_wordHere_0 1 rfl
theorem dX11_wordHere_4 : decode cX11_wordHere 4 = .ok (.invokevirtual 114, 3) := wn_at gdX11_wordHere_0 2 rfl
theorem dX11_wordHere_7 : decode cX11_wordHere 7 = .ok (.ifCond .eq 5, 3) := wn_at gdX11_wordHere_0 3 rfl
theorem dX11_wordHere_10 : decode cX11_wordHere 10 = .ok (.iconst 0, 1) := wn_at gdX11_wordHere_0 4 rfl
theorem dX11_wordHere_11 : decode cX11_wordHere 11 = .ok (.ireturn, 1) := wn_at gdX11_wordHere_0 5 rfl
theorem dX11_wordHere_12 : decode cX11_wordHere 12 = .ok (.aload_n 0, 1) := wn_at gdX11_wordHere_0 6 rfl
theorem dX11_wordHere_13 : decode cX11_wordHere 13 = .ok (.ldc2_w 137, 3) := wn_at gdX11_wordHere_0 7 rfl
theorem dX11_wordHere_16 : decode cX11_wordHere 16 = .ok (.invokevirtual 114, 3) := wn_at gdX11_wordHere_0 8 rfl
theorem dX11_wordHere_19 : decode cX11_wordHere 19 = .ok (.ifCond .eq 5, 3) := wn_at gdX11_wordHere_0 9 rfl
theorem gdX11_wordHere_22 : ∀ e ∈ ([(22, .iconst 1, 1), (23, .ireturn, 1), (24, .aload_n 0, 1), (25, .ldc2_w 139, 3), (28, .invokevirtual 114, 3), (31, .ifCond .eq 5, 3), (34, .iconst 2, 1), (35, .ireturn, 1), (36, .aload_n 0, 1), (37, .ldc2_w 141, 3)] : List (Nat × Instr × Nat)), decode cX11_wordHere e.1 = .ok e.2 := wn_all _ 22 (by decide +kernel)
theorem dX11_wordHere_22 : decode cX11_wordHere 22 = .ok (.iconst 1, 1) := wn_at gdX11_wordHere_22 0 rfl
theorem dX11_wordHere_23 : decode cX11_wordHere 23 = .ok (.ireturn, 1) := wn_at gdX11_wordHere_22 1 rfl
theorem dX11_wordHere_24 : decode cX11_wordHere 24 = .ok (.aload_n 0, 1) := wn_at gdX11_wordHere_22 2 rfl
theorem dX11_wordHere_25 : decode cX11_wordHere 25 = .ok (.ldc2_w 139, 3) := wn_at gdX11_wordHere_22 3 rfl
theorem dX11_wordHere_28 : decode cX11_wordHere 28 = .ok (.invokevirtual 114, 3) := wn_at gdX11_wordHere_22 4 rfl
theorem dX11_wordHere_31 : decode cX11_wordHere 31 = .ok (.ifCond .eq 5, 3) := wn_at gdX11_wordHere_22 5 rfl
theorem dX11_wordHere_34 : decode cX11_wordHere 34 = .ok (.iconst 2, 1) := wn_at gdX11_wordHere_22 6 rfl
theorem dX11_wordHere_35 : decode cX11_wordHere 35 = .ok (.ireturn, 1) := wn_at gdX11_wordHere_22 7 rfl
theorem dX11_wordHere_36 : decode cX11_wordHere 36 = .ok (.aload_n 0, 1) := wn_at gdX11_wordHere_22 8 rfl
theorem dX11_wordHere_37 : decode cX11_wordHere 37 = .ok (.ldc2_w 141, 3) := wn_at gdX11_wordHere_22 9 rfl
theorem gdX11_wordHere_40 : ∀ e ∈ ([(40, .invokevirtual 114, 3), (43, .ifCond .eq 5, 3), (46, .iconst 3, 1), (47, .ireturn, 1), (48, .aload_n 0, 1), (49, .ldc2_w 143, 3), (52, .invokevirtual 114, 3), (55, .ifCond .eq 5, 3), (58, .iconst 4, 1), (59, .ireturn, 1)] : List (Nat × Instr × Nat)), decode cX11_wordHere e.1 = .ok e.2 := wn_all _ 40 (by decide +kernel)
theorem dX11_wordHere_40 : decode cX11_wordHere 40 = .ok (.invokevirtual 114, 3) := wn_at gdX11_wordHere_40 0 rfl
theorem dX11_wordHere_43 : decode cX11_wordHere 43 = .ok (.ifCond .eq 5, 3) := wn_at gdX11_wordHere_40 1 rfl
theorem dX11_wordHere_46 : decode cX11_wordHere 46 = .ok (.iconst 3, 1) := wn_at gdX11_wordHere_40 2 rfl
theorem dX11_wordHere_47 : decode cX11_wordHere 47 = .ok (.ireturn, 1) := wn_at gdX11_wordHere_40 3 rfl
theorem dX11_wordHere_48 : decode cX11_wordHere 48 = .ok (.aload_n 0, 1) := wn_at gdX11_wordHere_40 4 rfl
theorem dX11_wordHere_49 : decode cX11_wordHere 49 = .ok (.ldc2_w 143, 3) := wn_at gdX11_wordHere_40 5 rfl
theorem dX11_wordHere_52 : decode cX11_wordHere 52 = .ok (.invokevirtual 114, 3) := wn_at gdX11_wordHere_40 6 rfl
theorem dX11_wordHere_55 : decode cX11_wordHere 55 = .ok (.ifCond .eq 5, 3) := wn_at gdX11_wordHere_40 7 rfl
theorem dX11_wordHere_58 : decode cX11_wordHere 58 = .ok (.iconst 4, 1) := wn_at gdX11_wordHere_40 8 rfl
theorem dX11_wordHere_59 : decode cX11_wordHere 59 = .ok (.ireturn, 1) := wn_at gdX11_wordHere_40 9 rfl
theorem gdX11_wordHere_60 : ∀ e ∈ ([(60, .aload_n 0, 1), (61, .ldc2_w 145, 3), (64, .invokevirtual 114, 3), (67, .ifCond .eq 5, 3), (70, .iconst 5, 1), (71, .ireturn, 1), (72, .aload_n 0, 1), (73, .ldc2_w 147, 3), (76, .invokevirtual 114, 3), (79, .ifCond .eq 8, 3)] : List (Nat × Instr × Nat)), decode cX11_wordHere e.1 = .ok e.2 := wn_all _ 60 (by decide +kernel)
theorem dX11_wordHere_60 : decode cX11_wordHere 60 = .ok (.aload_n 0, 1) := wn_at gdX11_wordHere_60 0 rfl
theorem dX11_wordHere_61 : decode cX11_wordHere 61 = .ok (.ldc2_w 145, 3) := wn_at gdX11_wordHere_60 1 rfl
theorem dX11_wordHere_64 : decode cX11_wordHere 64 = .ok (.invokevirtual 114, 3) := wn_at gdX11_wordHere_60 2 rfl
theorem dX11_wordHere_67 : decode cX11_wordHere 67 = .ok (.ifCond .eq 5, 3) := wn_at gdX11_wordHere_60 3 rfl
theorem dX11_wordHere_70 : decode cX11_wordHere 70 = .ok (.iconst 5, 1) := wn_at gdX11_wordHere_60 4 rfl
theorem dX11_wordHere_71 : decode cX11_wordHere 71 = .ok (.ireturn, 1) := wn_at gdX11_wordHere_60 5 rfl
theorem dX11_wordHere_72 : decode cX11_wordHere 72 = .ok (.aload_n 0, 1) := wn_at gdX11_wordHere_60 6 rfl
theorem dX11_wordHere_73 : decode cX11_wordHere 73 = .ok (.ldc2_w 147, 3) := wn_at gdX11_wordHere_60 7 rfl
theorem dX11_wordHere_76 : decode cX11_wordHere 76 = .ok (.invokevirtual 114, 3) := wn_at gdX11_wordHere_60 8 rfl
theorem dX11_wordHere_79 : decode cX11_wordHere 79 = .ok (.ifCond .eq 8, 3) := wn_at gdX11_wordHere_60 9 rfl
theorem gdX11_wordHere_82 : ∀ e ∈ ([(82, .bipush 6, 2), (84, .goto 19, 3), (87, .aload_n 0, 1), (88, .ldc2_w 149, 3), (91, .invokevirtual 114, 3), (94, .ifCond .eq 8, 3), (97, .bipush 7, 2), (99, .goto 4, 3), (102, .iconst (-1), 1), (103, .ireturn, 1)] : List (Nat × Instr × Nat)), decode cX11_wordHere e.1 = .ok e.2 := wn_all _ 82 (by decide +kernel)
theorem dX11_wordHere_82 : decode cX11_wordHere 82 = .ok (.bipush 6, 2) := wn_at gdX11_wordHere_82 0 rfl
theorem dX11_wordHere_84 : decode cX11_wordHere 84 = .ok (.goto 19, 3) := wn_at gdX11_wordHere_82 1 rfl
theorem dX11_wordHere_87 : decode cX11_wordHere 87 = .ok (.aload_n 0, 1) := wn_at gdX11_wordHere_82 2 rfl
theorem dX11_wordHere_88 : decode cX11_wordHere 88 = .ok (.ldc2_w 149, 3) := wn_at gdX11_wordHere_82 3 rfl
theorem dX11_wordHere_91 : decode cX11_wordHere 91 = .ok (.invokevirtual 114, 3) := wn_at gdX11_wordHere_82 4 rfl
theorem dX11_wordHere_94 : decode cX11_wordHere 94 = .ok (.ifCond .eq 8, 3) := wn_at gdX11_wordHere_82 5 rfl
theorem dX11_wordHere_97 : decode cX11_wordHere 97 = .ok (.bipush 7, 2) := wn_at gdX11_wordHere_82 6 rfl
theorem dX11_wordHere_99 : decode cX11_wordHere 99 = .ok (.goto 4, 3) := wn_at gdX11_wordHere_82 7 rfl
theorem dX11_wordHere_102 : decode cX11_wordHere 102 = .ok (.iconst (-1), 1) := wn_at gdX11_wordHere_82 8 rfl
theorem dX11_wordHere_103 : decode cX11_wordHere 103 = .ok (.ireturn, 1) := wn_at gdX11_wordHere_82 9 rfl
theorem gdX11_puts_0 : ∀ e ∈ ([(0, .aload_n 0, 1), (1, .getfield 13, 3), (4, .sipush 400, 3), (7, .aload_n 0, 1), (8, .getfield 151, 3), (11, .imul, 1), (12, .aload_n 0, 1), (13, .getfield 17, 3), (16, .aload_n 0, 1), (17, .getfield 151, 3)] : List (Nat × Instr × Nat)), decode cX11_puts e.1 = .ok e.2 := wn_all _ 0 (by decide +kernel)
theorem dX11_puts_0 : decode cX11_puts 0 = .ok (.aload_n 0, 1) := wn_at gdX11_puts_0 0 rfl
theorem dX11_puts_1 : decode cX11_puts 1 = .ok (.getfield 13, 3) := wn_at gdX11_puts_0 1 rfl
theorem dX11_puts_4 : decode cX11_puts 4 = .ok (.sipush 400, 3) := wn_at gdX11_puts_0 2 rfl
theorem dX11_puts_7 : decode cX11_puts 7 = .ok (.aload_n 0, 1) := wn_at gdX11_puts_0 3 rfl
theorem dX11_puts_8 : decode cX11_puts 8 = .ok (.getfield 151, 3) := wn_at gdX11_puts_0 4 rfl
theorem dX11_puts_11 : decode cX11_puts 11 = .ok (.imul, 1) := wn_at gdX11_puts_0 5 rfl
theorem dX11_puts_12 : decode cX11_puts 12 = .ok (.aload_n 0, 1) := wn_at gdX11_puts_0 6 rfl
theorem dX11_puts_13 : decode cX11_puts 13 = .ok (.getfield 17, 3) := wn_at gdX11_puts_0 7 rfl
theorem dX11_puts_16 : decode cX11_puts 16 = .ok (.aload_n 0, 1) := wn_at gdX11_puts_0 8 rfl
theorem dX11_puts_17 : decode cX11_puts 17 = .ok (.getfield 151, 3) := wn_at gdX11_puts_0 9 rfl
theorem gdX11_puts_20 : ∀ e ∈ ([(20, .iaload, 1), (21, .iadd, 1), (22, .iload_n 1, 1), (23, .bipush 16, 2), (25, .iload_n 2, 1), (26, .imul, 1), (27, .iadd, 1), (28, .iastore, 1), (29, .aload_n 0, 1), (30, .getfield 17, 3)] : List (Nat × Instr × Nat)), decode cX11_puts e.1 = .ok e.2 := wn_all _ 20 (by decide +kernel)
theorem dX11_puts_20 : decode cX11_puts 20 = .ok (.iaload, 1) := wn_at gdX11_puts_20 0 rfl
theorem dX11_puts_21 : decode cX11_puts 21 = .ok (.iadd, 1) := wn_at gdX11_puts_20 1 rfl
theorem dX11_puts_22 : decode cX11_puts 22 = .ok (.iload_n 1, 1) := wn_at gdX11_puts_20 2 rfl
theorem dX11_puts_23 : decode cX11_puts 23 = .ok (.bipush 16, 2) := wn_at gdX11_puts_20 3 rfl
theorem dX11_puts_25 : decode cX11_puts 25 = .ok (.iload_n 2, 1) := wn_at gdX11_puts_20 4 rfl
theorem dX11_puts_26 : decode cX11_puts 26 = .ok (.imul, 1) := wn_at gdX11_puts_20 5 rfl
theorem dX11_puts_27 : decode cX11_puts 27 = .ok (.iadd, 1) := wn_at gdX11_puts_20 6 rfl
theorem dX11_puts_28 : decode cX11_puts 28 = .ok (.iastore, 1) := wn_at gdX11_puts_20 7 rfl
theorem dX11_puts_29 : decode cX11_puts 29 = .ok (.aload_n 0, 1) := wn_at gdX11_puts_20 8 rfl
theorem dX11_puts_30 : decode cX11_puts 30 = .ok (.getfield 17, 3) := wn_at gdX11_puts_20 9 rfl
theorem gdX11_puts_33 : ∀ e ∈ ([(33, .aload_n 0, 1), (34, .getfield 151, 3), (37, .dup2, 1), (38, .iaload, 1), (39, .iconst 1, 1), (40, .iadd, 1), (41, .iastore, 1), (42, .return_, 1)] : List (Nat × Instr × Nat)), decode cX11_puts e.1 = .ok e.2 := wn_all _ 33 (by decide +kernel)
theorem dX11_puts_33 : decode cX11_puts 33 = .ok (.aload_n 0, 1) := wn_at gdX11_puts_33 0 rfl
theorem dX11_puts_34 : decode cX11_puts 34 = .ok (.getfield 151, 3) := wn_at gdX11_puts_33 1 rfl
theorem dX11_puts_37 : decode cX11_puts 37 = .ok (.dup2, 1) := wn_at gdX11_puts_33 2 rfl
theorem dX11_puts_38 : decode cX11_puts 38 = .ok (.iaload, 1) := wn_at gdX11_puts_33 3 rfl
theorem dX11_puts_39 : decode cX11_puts 39 = .ok (.iconst 1, 1) := wn_at gdX11_puts_33 4 rfl
theorem dX11_puts_40 : decode cX11_puts 40 = .ok (.iadd, 1) := wn_at gdX11_puts_33 5 rfl
theorem dX11_puts_41 : decode cX11_puts 41 = .ok (.iastore, 1) := wn_at gdX11_puts_33 6 rfl
theorem dX11_puts_42 : decode cX11_puts 42 = .ok (.return_, 1) := wn_at gdX11_puts_33 7 rfl
theorem gdX11_makes_0 : ∀ e ∈ ([(0, .aload_n 0, 1), (1, .getfield 154, 3), (4, .bipush 60, 2), (6, .if_icmp .ne 10, 3), (9, .aload_n 0, 1), (10, .iconst 3, 1), (11, .iload_n 1, 1), (12, .invokevirtual 124, 3), (15, .ireturn, 1), (16, .aload_n 0, 1)] : List (Nat × Instr × Nat)), decode cX11_makes e.1 = .ok e.2 := wn_all _ 0 (by decide +kernel)
theorem dX11_makes_0 : decode cX11_makes 0 = .ok (.aload_n 0, 1) := wn_at gdX11_makes_0 0 rfl
theorem dX11_makes_1 : decode cX11_makes 1 = .ok (.getfield 154, 3) := wn_at gdX11_makes_0 1 rfl
theorem dX11_makes_4 : decode cX11_makes 4 = .ok (.bipush 60, 2) := wn_at gdX11_makes_0 2 rfl
theorem dX11_makes_6 : decode cX11_makes 6 = .ok (.if_icmp .ne 10, 3) := wn_at gdX11_makes_0 3 rfl
theorem dX11_makes_9 : decode cX11_makes 9 = .ok (.aload_n 0, 1) := wn_at gdX11_makes_0 4 rfl
theorem dX11_makes_10 : decode cX11_makes 10 = .ok (.iconst 3, 1) := wn_at gdX11_makes_0 5 rfl
theorem dX11_makes_11 : decode cX11_makes 11 = .ok (.iload_n 1, 1) := wn_at gdX11_makes_0 6 rfl
theorem dX11_makes_12 : decode cX11_makes 12 = .ok (.invokevirtual 124, 3) := wn_at gdX11_makes_0 7 rfl
theorem dX11_makes_15 : decode cX11_makes 15 = .ok (.ireturn, 1) := wn_at gdX11_makes_0 8 rfl
theorem dX11_makes_16 : decode cX11_makes 16 = .ok (.aload_n 0, 1) := wn_at gdX11_makes_0 9 rfl
theorem gdX11_makes_17 : ∀ e ∈ ([(17, .dup, 1), (18, .getfield 154, 3), (21, .iconst 1, 1), (22, .iadd, 1), (23, .putfield 154, 3), (26, .iconst 1, 1), (27, .ireturn, 1)] : List (Nat × Instr × Nat)), decode cX11_makes e.1 = .ok e.2 := wn_all _ 17 (by decide +kernel)
theorem dX11_makes_17 : decode cX11_makes 17 = .ok (.dup, 1) := wn_at gdX11_makes_17 0 rfl
theorem dX11_makes_18 : decode cX11_makes 18 = .ok (.getfield 154, 3) := wn_at gdX11_makes_17 1 rfl
theorem dX11_makes_21 : decode cX11_makes 21 = .ok (.iconst 1, 1) := wn_at gdX11_makes_17 2 rfl
theorem dX11_makes_22 : decode cX11_makes 22 = .ok (.iadd, 1) := wn_at gdX11_makes_17 3 rfl
theorem dX11_makes_23 : decode cX11_makes 23 = .ok (.putfield 154, 3) := wn_at gdX11_makes_17 4 rfl
theorem dX11_makes_26 : decode cX11_makes 26 = .ok (.iconst 1, 1) := wn_at gdX11_makes_17 5 rfl
theorem dX11_makes_27 : decode cX11_makes 27 = .ok (.ireturn, 1) := wn_at gdX11_makes_17 6 rfl
theorem gdX11_opens_0 : ∀ e ∈ ([(0, .aload_n 0, 1), (1, .getfield 157, 3), (4, .bipush 10, 2), (6, .if_icmp .ne 13, 3), (9, .aload_n 0, 1), (10, .iconst 2, 1), (11, .aload_n 0, 1), (12, .getfield 103, 3), (15, .invokevirtual 124, 3), (18, .ireturn, 1)] : List (Nat × Instr × Nat)), decode cX11_opens e.1 = .ok e.2 := wn_all _ 0 (by decide +kernel)
theorem dX11_opens_0 : decode cX11_opens 0 = .ok (.aload_n 0, 1) := wn_at gdX11_opens_0 0 rfl
theorem dX11_opens_1 : decode cX11_opens 1 = .ok (.getfield 157, 3) := wn_at gdX11_opens_0 1 rfl
theorem dX11_opens_4 : decode cX11_opens 4 = .ok (.bipush 10, 2) := wn_at gdX11_opens_0 2 rfl
theorem dX11_opens_6 : decode cX11_opens 6 = .ok (.if_icmp .ne 13, 3) := wn_at gdX11_opens_0 3 rfl
theorem dX11_opens_9 : decode cX11_opens 9 = .ok (.aload_n 0, 1) := wn_at gdX11_opens_0 4 rfl
theorem dX11_opens_10 : decode cX11_opens 10 = .ok (.iconst 2, 1) := wn_at gdX11_opens_0 5 rfl
theorem dX11_opens_11 : decode cX11_opens 11 = .ok (.aload_n 0, 1) := wn_at gdX11_opens_0 6 rfl
theorem dX11_opens_12 : decode cX11_opens 12 = .ok (.getfield 103, 3) := wn_at gdX11_opens_0 7 rfl
theorem dX11_opens_15 : decode cX11_opens 15 = .ok (.invokevirtual 124, 3) := wn_at gdX11_opens_0 8 rfl
theorem dX11_opens_18 : decode cX11_opens 18 = .ok (.ireturn, 1) := wn_at gdX11_opens_0 9 rfl
theorem gdX11_opens_19 : ∀ e ∈ ([(19, .aload_n 0, 1), (20, .dup, 1), (21, .getfield 157, 3), (24, .iconst 1, 1), (25, .iadd, 1), (26, .putfield 157, 3), (29, .aload_n 0, 1), (30, .getfield 35, 3), (33, .aload_n 0, 1), (34, .getfield 160, 3)] : List (Nat × Instr × Nat)), decode cX11_opens e.1 = .ok e.2 := wn_all _ 19 (by decide +kernel)
theorem dX11_opens_19 : decode cX11_opens 19 = .ok (.aload_n 0, 1) := wn_at gdX11_opens_19 0 rfl
theorem dX11_opens_20 : decode cX11_opens 20 = .ok (.dup, 1) := wn_at gdX11_opens_19 1 rfl
theorem dX11_opens_21 : decode cX11_opens 21 = .ok (.getfield 157, 3) := wn_at gdX11_opens_19 2 rfl
theorem dX11_opens_24 : decode cX11_opens 24 = .ok (.iconst 1, 1) := wn_at gdX11_opens_19 3 rfl
theorem dX11_opens_25 : decode cX11_opens 25 = .ok (.iadd, 1) := wn_at gdX11_opens_19 4 rfl
theorem dX11_opens_26 : decode cX11_opens 26 = .ok (.putfield 157, 3) := wn_at gdX11_opens_19 5 rfl
theorem dX11_opens_29 : decode cX11_opens 29 = .ok (.aload_n 0, 1) := wn_at gdX11_opens_19 6 rfl
theorem dX11_opens_30 : decode cX11_opens 30 = .ok (.getfield 35, 3) := wn_at gdX11_opens_19 7 rfl
theorem dX11_opens_33 : decode cX11_opens 33 = .ok (.aload_n 0, 1) := wn_at gdX11_opens_19 8 rfl
theorem dX11_opens_34 : decode cX11_opens 34 = .ok (.getfield 160, 3) := wn_at gdX11_opens_19 9 rfl
theorem gdX11_opens_37 : ∀ e ∈ ([(37, .iload_n 1, 1), (38, .iastore, 1), (39, .aload_n 0, 1), (40, .dup, 1), (41, .getfield 160, 3), (44, .iconst 1, 1), (45, .iadd, 1), (46, .putfield 160, 3), (49, .iconst 1, 1), (50, .ireturn, 1)] : List (Nat × Instr × Nat)), decode cX11_opens e.1 = .ok e.2 := wn_all _ 37 (by decide +kernel)
theorem dX11_opens_37 : decode cX11_opens 37 = .ok (.iload_n 1, 1) := wn_at gdX11_opens_37 0 rfl
theorem dX11_opens_38 : decode cX11_opens 38 = .ok (.iastore, 1) := wn_at gdX11_opens_37 1 rfl
theorem dX11_opens_39 : decode cX11_opens 39 = .ok (.aload_n 0, 1) := wn_at gdX11_opens_37 2 rfl
theorem dX11_opens_40 : decode cX11_opens 40 = .ok (.dup, 1) := wn_at gdX11_opens_37 3 rfl
theorem dX11_opens_41 : decode cX11_opens 41 = .ok (.getfield 160, 3) := wn_at gdX11_opens_37 4 rfl
theorem dX11_opens_44 : decode cX11_opens 44 = .ok (.iconst 1, 1) := wn_at gdX11_opens_37 5 rfl
theorem dX11_opens_45 : decode cX11_opens 45 = .ok (.iadd, 1) := wn_at gdX11_opens_37 6 rfl
theorem dX11_opens_46 : decode cX11_opens 46 = .ok (.putfield 160, 3) := wn_at gdX11_opens_37 7 rfl
theorem dX11_opens_49 : decode cX11_opens 49 = .ok (.iconst 1, 1) := wn_at gdX11_opens_37 8 rfl
theorem dX11_opens_50 : decode cX11_opens 50 = .ok (.ireturn, 1) := wn_at gdX11_opens_37 9 rfl
theorem gdX11_strength_0 : ∀ e ∈ ([(0, .iload_n 0, 1), (1, .bipush 13, 2), (3, .if_icmp .ne 7, 3), (6, .iconst 1, 1), (7, .goto 24, 3), (10, .iload_n 0, 1), (11, .bipush 12, 2), (13, .if_icmp .ne 7, 3), (16, .iconst 2, 1), (17, .goto 14, 3)] : List (Nat × Instr × Nat)), decode cX11_strength e.1 = .ok e.2 := wn_all _ 0 (by decide +kernel)
theorem dX11_strength_0 : decode cX11_strength 0 = .ok (.iload_n 0, 1) := wn_at gdX11_strength_0 0 rfl
theorem dX11_strength_1 : decode cX11_strength 1 = .ok (.bipush 13, 2) := wn_at gdX11_strength_0 1 rfl
theorem dX11_strength_3 : decode cX11_strength 3 = .ok (.if_icmp .ne 7, 3) := wn_at gdX11_strength_0 2 rfl
theorem dX11_strength_6 : decode cX11_strength 6 = .ok (.iconst 1, 1) := wn_at gdX11_strength_0 3 rfl
theorem dX11_strength_7 : decode cX11_strength 7 = .ok (.goto 24, 3) := wn_at gdX11_strength_0 4 rfl
theorem dX11_strength_10 : decode cX11_strength 10 = .ok (.iload_n 0, 1) := wn_at gdX11_strength_0 5 rfl
theorem dX11_strength_11 : decode cX11_strength 11 = .ok (.bipush 12, 2) := wn_at gdX11_strength_0 6 rfl
theorem dX11_strength_13 : decode cX11_strength 13 = .ok (.if_icmp .ne 7, 3) := wn_at gdX11_strength_0 7 rfl
theorem dX11_strength_16 : decode cX11_strength 16 = .ok (.iconst 2, 1) := wn_at gdX11_strength_0 8 rfl
theorem dX11_strength_17 : decode cX11_strength 17 = .ok (.goto 14, 3) := wn_at gdX11_strength_0 9 rfl
theorem gdX11_strength_20 : ∀ e ∈ ([(20, .iload_n 0, 1), (21, .bipush 11, 2), (23, .if_icmp .ne 7, 3), (26, .iconst 3, 1), (27, .goto 4, 3), (30, .iconst 0, 1), (31, .ireturn, 1)] : List (Nat × Instr × Nat)), decode cX11_strength e.1 = .ok e.2 := wn_all _ 20 (by decide +kernel)
theorem dX11_strength_20 : decode cX11_strength 20 = .ok (.iload_n 0, 1) := wn_at gdX11_strength_20 0 rfl
theorem dX11_strength_21 : decode cX11_strength 21 = .ok (.bipush 11, 2) := wn_at gdX11_strength_20 1 rfl
theorem dX11_strength_23 : decode cX11_strength 23 = .ok (.if_icmp .ne 7, 3) := wn_at gdX11_strength_20 2 rfl
theorem dX11_strength_26 : decode cX11_strength 26 = .ok (.iconst 3, 1) := wn_at gdX11_strength_20 3 rfl
theorem dX11_strength_27 : decode cX11_strength 27 = .ok (.goto 4, 3) := wn_at gdX11_strength_20 4 rfl
theorem dX11_strength_30 : decode cX11_strength 30 = .ok (.iconst 0, 1) := wn_at gdX11_strength_20 5 rfl
theorem dX11_strength_31 : decode cX11_strength 31 = .ok (.ireturn, 1) := wn_at gdX11_strength_20 6 rfl
theorem gdX11_settles_0 : ∀ e ∈ ([(0, .aload_n 0, 1), (1, .getfield 160, 3), (4, .ifCond .le 72, 3), (7, .aload_n 0, 1), (8, .getfield 35, 3), (11, .aload_n 0, 1), (12, .getfield 160, 3), (15, .iconst 1, 1), (16, .isub, 1), (17, .iaload, 1)] : List (Nat × Instr × Nat)), decode cX11_settles e.1 = .ok e.2 := wn_all _ 0 (by decide +kernel)
theorem dX11_settles_0 : decode cX11_settles 0 = .ok (.aload_n 0, 1) := wn_at gdX11_settles_0 0 rfl
theorem dX11_settles_1 : decode cX11_settles 1 = .ok (.getfield 160, 3) := wn_at gdX11_settles_0 1 rfl
theorem dX11_settles_4 : decode cX11_settles 4 = .ok (.ifCond .le 72, 3) := wn_at gdX11_settles_0 2 rfl
theorem dX11_settles_7 : decode cX11_settles 7 = .ok (.aload_n 0, 1) := wn_at gdX11_settles_0 3 rfl
theorem dX11_settles_8 : decode cX11_settles 8 = .ok (.getfield 35, 3) := wn_at gdX11_settles_0 4 rfl
theorem dX11_settles_11 : decode cX11_settles 11 = .ok (.aload_n 0, 1) := wn_at gdX11_settles_0 5 rfl
theorem dX11_settles_12 : decode cX11_settles 12 = .ok (.getfield 160, 3) := wn_at gdX11_settles_0 6 rfl
theorem dX11_settles_15 : decode cX11_settles 15 = .ok (.iconst 1, 1) := wn_at gdX11_settles_0 7 rfl
theorem dX11_settles_16 : decode cX11_settles 16 = .ok (.isub, 1) := wn_at gdX11_settles_0 8 rfl
theorem dX11_settles_17 : decode cX11_settles 17 = .ok (.iaload, 1) := wn_at gdX11_settles_0 9 rfl
theorem gdX11_settles_18 : ∀ e ∈ ([(18, .invokestatic 163, 3), (21, .iload_n 1, 1), (22, .if_icmp .lt 54, 3), (25, .aload_n 0, 1), (26, .dup, 1), (27, .getfield 160, 3), (30, .iconst 1, 1), (31, .isub, 1), (32, .putfield 160, 3), (35, .aload_n 0, 1)] : List (Nat × Instr × Nat)), decode cX11_settles e.1 = .ok e.2 := wn_all _ 18 (by decide +kernel)
theorem dX11_settles_18 : decode cX11_settles 18 = .ok (.invokestatic 163, 3) := wn_at gdX11_settles_18 0 rfl
theorem dX11_settles_21 : decode cX11_settles 21 = .ok (.iload_n 1, 1) := wn_at gdX11_settles_18 1 rfl
theorem dX11_settles_22 : decode cX11_settles 22 = .ok (.if_icmp .lt 54, 3) := wn_at gdX11_settles_18 2 rfl
theorem dX11_settles_25 : decode cX11_settles 25 = .ok (.aload_n 0, 1) := wn_at gdX11_settles_18 3 rfl
theorem dX11_settles_26 : decode cX11_settles 26 = .ok (.dup, 1) := wn_at gdX11_settles_18 4 rfl
theorem dX11_settles_27 : decode cX11_settles 27 = .ok (.getfield 160, 3) := wn_at gdX11_settles_18 5 rfl
theorem dX11_settles_30 : decode cX11_settles 30 = .ok (.iconst 1, 1) := wn_at gdX11_settles_18 6 rfl
theorem dX11_settles_31 : decode cX11_settles 31 = .ok (.isub, 1) := wn_at gdX11_settles_18 7 rfl
theorem dX11_settles_32 : decode cX11_settles 32 = .ok (.putfield 160, 3) := wn_at gdX11_settles_18 8 rfl
theorem dX11_settles_35 : decode cX11_settles 35 = .ok (.aload_n 0, 1) := wn_at gdX11_settles_18 9 rfl
theorem gdX11_settles_36 : ∀ e ∈ ([(36, .aload_n 0, 1), (37, .getfield 35, 3), (40, .aload_n 0, 1), (41, .getfield 160, 3), (44, .iaload, 1), (45, .iconst 0, 1), (46, .invokevirtual 167, 3), (49, .aload_n 0, 1), (50, .getfield 35, 3), (53, .aload_n 0, 1)] : List (Nat × Instr × Nat)), decode cX11_settles e.1 = .ok e.2 := wn_all _ 36 (by decide +kernel)
theorem dX11_settles_36 : decode cX11_settles 36 = .ok (.aload_n 0, 1) := wn_at gdX11_settles_36 0 rfl
theorem dX11_settles_37 : decode cX11_settles 37 = .ok (.getfield 35, 3) := wn_at gdX11_settles_36 1 rfl
theorem dX11_settles_40 : decode cX11_settles 40 = .ok (.aload_n 0, 1) := wn_at gdX11_settles_36 2 rfl
theorem dX11_settles_41 : decode cX11_settles 41 = .ok (.getfield 160, 3) := wn_at gdX11_settles_36 3 rfl
theorem dX11_settles_44 : decode cX11_settles 44 = .ok (.iaload, 1) := wn_at gdX11_settles_36 4 rfl
theorem dX11_settles_45 : decode cX11_settles 45 = .ok (.iconst 0, 1) := wn_at gdX11_settles_36 5 rfl
theorem dX11_settles_46 : decode cX11_settles 46 = .ok (.invokevirtual 167, 3) := wn_at gdX11_settles_36 6 rfl
theorem dX11_settles_49 : decode cX11_settles 49 = .ok (.aload_n 0, 1) := wn_at gdX11_settles_36 7 rfl
theorem dX11_settles_50 : decode cX11_settles 50 = .ok (.getfield 35, 3) := wn_at gdX11_settles_36 8 rfl
theorem dX11_settles_53 : decode cX11_settles 53 = .ok (.aload_n 0, 1) := wn_at gdX11_settles_36 9 rfl
theorem gdX11_settles_54 : ∀ e ∈ ([(54, .getfield 160, 3), (57, .iaload, 1), (58, .bipush 11, 2), (60, .if_icmp .ne (-60), 3), (63, .aload_n 0, 1), (64, .dup, 1), (65, .getfield 157, 3), (68, .iconst 1, 1), (69, .isub, 1), (70, .putfield 157, 3)] : List (Nat × Instr × Nat)), decode cX11_settles e.1 = .ok e.2 := wn_all _ 54 (by decide +kernel)
theorem dX11_settles_54 : decode cX11_settles 54 = .ok (.getfield 160, 3) := wn_at gdX11_settles_54 0 rfl
theorem dX11_settles_57 : decode cX11_settles 57 = .ok (.iaload, 1) := wn_at gdX11_settles_54 1 rfl
theorem dX11_settles_58 : decode cX11_settles 58 = .ok (.bipush 11, 2) := wn_at gdX11_settles_54 2 rfl
theorem dX11_settles_60 : decode cX11_settles 60 = .ok (.if_icmp .ne (-60), 3) := wn_at gdX11_settles_54 3 rfl
theorem dX11_settles_63 : decode cX11_settles 63 = .ok (.aload_n 0, 1) := wn_at gdX11_settles_54 4 rfl
theorem dX11_settles_64 : decode cX11_settles 64 = .ok (.dup, 1) := wn_at gdX11_settles_54 5 rfl
theorem dX11_settles_65 : decode cX11_settles 65 = .ok (.getfield 157, 3) := wn_at gdX11_settles_54 6 rfl
theorem dX11_settles_68 : decode cX11_settles 68 = .ok (.iconst 1, 1) := wn_at gdX11_settles_54 7 rfl
theorem dX11_settles_69 : decode cX11_settles 69 = .ok (.isub, 1) := wn_at gdX11_settles_54 8 rfl
theorem dX11_settles_70 : decode cX11_settles 70 = .ok (.putfield 157, 3) := wn_at gdX11_settles_54 9 rfl
