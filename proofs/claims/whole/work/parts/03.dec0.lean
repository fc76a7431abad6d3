theorem dX0_init_0 : decode cX0_init 0 = .ok (.aload_n 0, 1) := by decide +kernel
theorem dX0_init_1 : decode cX0_init 1 = .ok (.invokespecial 3, 3) := by decide +kernel
theorem dX0_init_4 : decode cX0_init 4 = .ok (.aload_n 0, 1) := by decide +kernel
theorem dX0_init_5 : decode cX0_init 5 = .ok (.bipush 8, 2) := by decide +kernel
theorem dX0_init_7 : decode cX0_init 7 = .ok (.newarray .int, 2) := by decide +kernel
theorem dX0_init_9 : decode cX0_init 9 = .ok (.putfield 9, 3) := by decide +kernel
theorem dX0_init_12 : decode cX0_init 12 = .ok (.aload_n 0, 1) := by decide +kernel
theorem dX0_init_13 : decode cX0_init 13 = .ok (.bipush 8, 2) := by decide +kernel
theorem dX0_init_15 : decode cX0_init 15 = .ok (.newarray .int, 2) := by decide +kernel
theorem dX0_init_17 : decode cX0_init 17 = .ok (.putfield 15, 3) := by decide +kernel
theorem dX0_init_20 : decode cX0_init 20 = .ok (.aload_n 0, 1) := by decide +kernel
theorem dX0_init_21 : decode cX0_init 21 = .ok (.bipush 8, 2) := by decide +kernel
theorem dX0_init_23 : decode cX0_init 23 = .ok (.newarray .int, 2) := by decide +kernel
theorem dX0_init_25 : decode cX0_init 25 = .ok (.putfield 18, 3) := by decide +kernel
theorem dX0_init_28 : decode cX0_init 28 = .ok (.aload_n 0, 1) := by decide +kernel
theorem dX0_init_29 : decode cX0_init 29 = .ok (.bipush 8, 2) := by decide +kernel
theorem dX0_init_31 : decode cX0_init 31 = .ok (.newarray .int, 2) := by decide +kernel
theorem dX0_init_33 : decode cX0_init 33 = .ok (.putfield 21, 3) := by decide +kernel
theorem dX0_init_36 : decode cX0_init 36 = .ok (.aload_n 0, 1) := by decide +kernel
theorem dX0_init_37 : decode cX0_init 37 = .ok (.bipush 8, 2) := by decide +kernel
theorem dX0_init_39 : decode cX0_init 39 = .ok (.newarray .long, 2) := by decide +kernel
theorem dX0_init_41 : decode cX0_init 41 = .ok (.putfield 24, 3) := by decide +kernel
theorem dX0_init_44 : decode cX0_init 44 = .ok (.aload_n 0, 1) := by decide +kernel
theorem dX0_init_45 : decode cX0_init 45 = .ok (.iconst 0, 1) := by decide +kernel
theorem dX0_init_46 : decode cX0_init 46 = .ok (.putfield 28, 3) := by decide +kernel
theorem dX0_init_49 : decode cX0_init 49 = .ok (.aload_n 0, 1) := by decide +kernel
theorem dX0_init_50 : decode cX0_init 50 = .ok (.iconst 0, 1) := by decide +kernel
theorem dX0_init_51 : decode cX0_init 51 = .ok (.putfield 32, 3) := by decide +kernel
theorem dX0_init_54 : decode cX0_init 54 = .ok (.return_, 1) := by decide +kernel
theorem dX0_copyFrom_0 : decode cX0_copyFrom 0 = .ok (.aload_n 1, 1) := by decide +kernel
theorem dX0_copyFrom_1 : decode cX0_copyFrom 1 = .ok (.getfield 9, 3) := by decide +kernel
theorem dX0_copyFrom_4 : decode cX0_copyFrom 4 = .ok (.iconst 0, 1) := by decide +kernel
theorem dX0_copyFrom_5 : decode cX0_copyFrom 5 = .ok (.aload_n 0, 1) := by decide +kernel
theorem dX0_copyFrom_6 : decode cX0_copyFrom 6 = .ok (.getfield 9, 3) := by decide +kernel
theorem dX0_copyFrom_9 : decode cX0_copyFrom 9 = .ok (.iconst 0, 1) := by decide +kernel
theorem dX0_copyFrom_10 : decode cX0_copyFrom 10 = .ok (.bipush 8, 2) := by decide +kernel
theorem dX0_copyFrom_12 : decode cX0_copyFrom 12 = .ok (.invokestatic 35, 3) := by decide +kernel
theorem dX0_copyFrom_15 : decode cX0_copyFrom 15 = .ok (.aload_n 1, 1) := by decide +kernel
theorem dX0_copyFrom_16 : decode cX0_copyFrom 16 = .ok (.getfield 15, 3) := by decide +kernel
theorem dX0_copyFrom_19 : decode cX0_copyFrom 19 = .ok (.iconst 0, 1) := by decide +kernel
theorem dX0_copyFrom_20 : decode cX0_copyFrom 20 = .ok (.aload_n 0, 1) := by decide +kernel
theorem dX0_copyFrom_21 : decode cX0_copyFrom 21 = .ok (.getfield 15, 3) := by decide +kernel
theorem dX0_copyFrom_24 : decode cX0_copyFrom 24 = .ok (.iconst 0, 1) := by decide +kernel
theorem dX0_copyFrom_25 : decode cX0_copyFrom 25 = .ok (.bipush 8, 2) := by decide +kernel
theorem dX0_copyFrom_27 : decode cX0_copyFrom 27 = .ok (.invokestatic 35, 3) := by decide +kernel
theorem dX0_copyFrom_30 : decode cX0_copyFrom 30 = .ok (.aload_n 1, 1) := by decide +kernel
theorem dX0_copyFrom_31 : decode cX0_copyFrom 31 = .ok (.getfield 18, 3) := by decide +kernel
theorem dX0_copyFrom_34 : decode cX0_copyFrom 34 = .ok (.iconst 0, 1) := by decide +kernel
theorem dX0_copyFrom_35 : decode cX0_copyFrom 35 = .ok (.aload_n 0, 1) := by decide +kernel
theorem dX0_copyFrom_36 : decode cX0_copyFrom 36 = .ok (.getfield 18, 3) := by decide +kernel
theorem dX0_copyFrom_39 : decode cX0_copyFrom 39 = .ok (.iconst 0, 1) := by decide +kernel
theorem dX0_copyFrom_40 : decode cX0_copyFrom 40 = .ok (.bipush 8, 2) := by decide +kernel
theorem dX0_copyFrom_42 : decode cX0_copyFrom 42 = .ok (.invokestatic 35, 3) := by decide +kernel
theorem dX0_copyFrom_45 : decode cX0_copyFrom 45 = .ok (.aload_n 1, 1) := by decide +kernel
theorem dX0_copyFrom_46 : decode cX0_copyFrom 46 = .ok (.getfield 21, 3) := by decide +kernel
theorem dX0_copyFrom_49 : decode cX0_copyFrom 49 = .ok (.iconst 0, 1) := by decide +kernel
theorem dX0_copyFrom_50 : decode cX0_copyFrom 50 = .ok (.aload_n 0, 1) := by decide +kernel
theorem dX0_copyFrom_51 : decode cX0_copyFrom 51 = .ok (.getfield 21, 3) := by decide +kernel
theorem dX0_copyFrom_54 : decode cX0_copyFrom 54 = .ok (.iconst 0, 1) := by decide +kernel
theorem dX0_copyFrom_55 : decode cX0_copyFrom 55 = .ok (.bipush 8, 2) := by decide +kernel
theorem dX0_copyFrom_57 : decode cX0_copyFrom 57 = .ok (.invokestatic 35, 3) := by decide +kernel
theorem dX0_copyFrom_60 : decode cX0_copyFrom 60 = .ok (.aload_n 1, 1) := by decide +kernel
theorem dX0_copyFrom_61 : decode cX0_copyFrom 61 = .ok (.getfield 24, 3) := by decide +kernel
theorem dX0_copyFrom_64 : decode cX0_copyFrom 64 = .ok (.iconst 0, 1) := by decide +kernel
theorem dX0_copyFrom_65 : decode cX0_copyFrom 65 = .ok (.aload_n 0, 1) := by decide +kernel
theorem dX0_copyFrom_66 : decode cX0_copyFrom 66 = .ok (.getfield 24, 3) := by decide +kernel
theorem dX0_copyFrom_69 : decode cX0_copyFrom 69 = .ok (.iconst 0, 1) := by decide +kernel
theorem dX0_copyFrom_70 : decode cX0_copyFrom 70 = .ok (.bipush 8, 2) := by decide +kernel
theorem dX0_copyFrom_72 : decode cX0_copyFrom 72 = .ok (.invokestatic 35, 3) := by decide +kernel
theorem dX0_copyFrom_75 : decode cX0_copyFrom 75 = .ok (.aload_n 0, 1) := by decide +kernel
theorem dX0_copyFrom_76 : decode cX0_copyFrom 76 = .ok (.aload_n 1, 1) := by decide +kernel
theorem dX0_copyFrom_77 : decode cX0_copyFrom 77 = .ok (.getfield 28, 3) := by decide +kernel
theorem dX0_copyFrom_80 : decode cX0_copyFrom 80 = .ok (.putfield 28, 3) := by decide +kernel
theorem dX0_copyFrom_83 : decode cX0_copyFrom 83 = .ok (.aload_n 0, 1) := by decide +kernel
theorem dX0_copyFrom_84 : decode cX0_copyFrom 84 = .ok (.aload_n 1, 1) := by decide +kernel
theorem dX0_copyFrom_85 : decode cX0_copyFrom 85 = .ok (.getfield 32, 3) := by decide +kernel
theorem dX0_copyFrom_88 : decode cX0_copyFrom 88 = .ok (.putfield 32, 3) := by decide +kernel
theorem dX0_copyFrom_91 : decode cX0_copyFrom 91 = .ok (.return_, 1) := by decide +kernel
theorem dX0_addThing_0 : decode cX0_addThing 0 = .ok (.aload_n 0, 1) := by decide +kernel
theorem dX0_addThing_1 : decode cX0_addThing 1 = .ok (.getfield 28, 3) := by decide +kernel
theorem dX0_addThing_4 : decode cX0_addThing 4 = .ok (.bipush 8, 2) := by decide +kernel
theorem dX0_addThing_6 : decode cX0_addThing 6 = .ok (.if_icmp .ge 32, 3) := by decide +kernel
theorem dX0_addThing_9 : decode cX0_addThing 9 = .ok (.aload_n 0, 1) := by decide +kernel
theorem dX0_addThing_10 : decode cX0_addThing 10 = .ok (.aload_n 0, 1) := by decide +kernel
theorem dX0_addThing_11 : decode cX0_addThing 11 = .ok (.getfield 28, 3) := by decide +kernel
theorem dX0_addThing_14 : decode cX0_addThing 14 = .ok (.iload_n 1, 1) := by decide +kernel
theorem dX0_addThing_15 : decode cX0_addThing 15 = .ok (.invokevirtual 41, 3) := by decide +kernel
theorem dX0_addThing_18 : decode cX0_addThing 18 = .ok (.aload_n 0, 1) := by decide +kernel
theorem dX0_addThing_19 : decode cX0_addThing 19 = .ok (.getfield 24, 3) := by decide +kernel
theorem dX0_addThing_22 : decode cX0_addThing 22 = .ok (.aload_n 0, 1) := by decide +kernel
theorem dX0_addThing_23 : decode cX0_addThing 23 = .ok (.getfield 28, 3) := by decide +kernel
theorem dX0_addThing_26 : decode cX0_addThing 26 = .ok (.lconst 0, 1) := by decide +kernel
theorem dX0_addThing_27 : decode cX0_addThing 27 = .ok (.lastore, 1) := by decide +kernel
theorem dX0_addThing_28 : decode cX0_addThing 28 = .ok (.aload_n 0, 1) := by decide +kernel
theorem dX0_addThing_29 : decode cX0_addThing 29 = .ok (.dup, 1) := by decide +kernel
theorem dX0_addThing_30 : decode cX0_addThing 30 = .ok (.getfield 28, 3) := by decide +kernel
theorem dX0_addThing_33 : decode cX0_addThing 33 = .ok (.iconst 1, 1) := by decide +kernel
theorem dX0_addThing_34 : decode cX0_addThing 34 = .ok (.iadd, 1) := by decide +kernel
theorem dX0_addThing_35 : decode cX0_addThing 35 = .ok (.putfield 28, 3) := by decide +kernel
theorem dX0_addThing_38 : decode cX0_addThing 38 = .ok (.return_, 1) := by decide +kernel
theorem dX0_putOn_0 : decode cX0_putOn 0 = .ok (.aload_n 0, 1) := by decide +kernel
theorem dX0_putOn_1 : decode cX0_putOn 1 = .ok (.getfield 9, 3) := by decide +kernel
theorem dX0_putOn_4 : decode cX0_putOn 4 = .ok (.iload_n 1, 1) := by decide +kernel
theorem dX0_putOn_5 : decode cX0_putOn 5 = .ok (.iload_n 2, 1) := by decide +kernel
theorem dX0_putOn_6 : decode cX0_putOn 6 = .ok (.iastore, 1) := by decide +kernel
theorem dX0_putOn_7 : decode cX0_putOn 7 = .ok (.aload_n 0, 1) := by decide +kernel
theorem dX0_putOn_8 : decode cX0_putOn 8 = .ok (.getfield 15, 3) := by decide +kernel
theorem dX0_putOn_11 : decode cX0_putOn 11 = .ok (.iload_n 1, 1) := by decide +kernel
theorem dX0_putOn_12 : decode cX0_putOn 12 = .ok (.iconst (-1), 1) := by decide +kernel
theorem dX0_putOn_13 : decode cX0_putOn 13 = .ok (.iastore, 1) := by decide +kernel
theorem dX0_putOn_14 : decode cX0_putOn 14 = .ok (.aload_n 0, 1) := by decide +kernel
theorem dX0_putOn_15 : decode cX0_putOn 15 = .ok (.getfield 18, 3) := by decide +kernel
theorem dX0_putOn_18 : decode cX0_putOn 18 = .ok (.iload_n 1, 1) := by decide +kernel
theorem dX0_putOn_19 : decode cX0_putOn 19 = .ok (.iconst 0, 1) := by decide +kernel
theorem dX0_putOn_20 : decode cX0_putOn 20 = .ok (.iastore, 1) := by decide +kernel
theorem dX0_putOn_21 : decode cX0_putOn 21 = .ok (.aload_n 0, 1) := by decide +kernel
theorem dX0_putOn_22 : decode cX0_putOn 22 = .ok (.getfield 21, 3) := by decide +kernel
theorem dX0_putOn_25 : decode cX0_putOn 25 = .ok (.iload_n 1, 1) := by decide +kernel
theorem dX0_putOn_26 : decode cX0_putOn 26 = .ok (.iconst (-1), 1) := by decide +kernel
theorem dX0_putOn_27 : decode cX0_putOn 27 = .ok (.iastore, 1) := by decide +kernel
theorem dX0_putOn_28 : decode cX0_putOn 28 = .ok (.return_, 1) := by decide +kernel
theorem dX0_isStanding_0 : decode cX0_isStanding 0 = .ok (.aload_n 0, 1) := by decide +kernel
theorem dX0_isStanding_1 : decode cX0_isStanding 1 = .ok (.getfield 9, 3) := by decide +kernel
theorem dX0_isStanding_4 : decode cX0_isStanding 4 = .ok (.iload_n 1, 1) := by decide +kernel
theorem dX0_isStanding_5 : decode cX0_isStanding 5 = .ok (.iaload, 1) := by decide +kernel
theorem dX0_isStanding_6 : decode cX0_isStanding 6 = .ok (.ifCond .lt 7, 3) := by decide +kernel
theorem dX0_isStanding_9 : decode cX0_isStanding 9 = .ok (.iconst 1, 1) := by decide +kernel
theorem dX0_isStanding_10 : decode cX0_isStanding 10 = .ok (.goto 4, 3) := by decide +kernel
theorem dX0_isStanding_13 : decode cX0_isStanding 13 = .ok (.iconst 0, 1) := by decide +kernel
theorem dX0_isStanding_14 : decode cX0_isStanding 14 = .ok (.ireturn, 1) := by decide +kernel
theorem dX0_isTogether_0 : decode cX0_isTogether 0 = .ok (.aload_n 0, 1) := by decide +kernel
theorem dX0_isTogether_1 : decode cX0_isTogether 1 = .ok (.iload_n 1, 1) := by decide +kernel
theorem dX0_isTogether_2 : decode cX0_isTogether 2 = .ok (.invokevirtual 45, 3) := by decide +kernel
theorem dX0_isTogether_5 : decode cX0_isTogether 5 = .ok (.ifCond .eq 22, 3) := by decide +kernel
theorem dX0_isTogether_8 : decode cX0_isTogether 8 = .ok (.aload_n 0, 1) := by decide +kernel
theorem dX0_isTogether_9 : decode cX0_isTogether 9 = .ok (.getfield 9, 3) := by decide +kernel
theorem dX0_isTogether_12 : decode cX0_isTogether 12 = .ok (.iload_n 1, 1) := by decide +kernel
theorem dX0_isTogether_13 : decode cX0_isTogether 13 = .ok (.iaload, 1) := by decide +kernel
theorem dX0_isTogether_14 : decode cX0_isTogether 14 = .ok (.aload_n 0, 1) := by decide +kernel
theorem dX0_isTogether_15 : decode cX0_isTogether 15 = .ok (.getfield 9, 3) := by decide +kernel
theorem dX0_isTogether_18 : decode cX0_isTogether 18 = .ok (.iload_n 2, 1) := by decide +kernel
theorem dX0_isTogether_19 : decode cX0_isTogether 19 = .ok (.iaload, 1) := by decide +kernel
theorem dX0_isTogether_20 : decode cX0_isTogether 20 = .ok (.if_icmp .ne 7, 3) := by decide +kernel
theorem dX0_isTogether_23 : decode cX0_isTogether 23 = .ok (.iconst 1, 1) := by decide +kernel
theorem dX0_isTogether_24 : decode cX0_isTogether 24 = .ok (.goto 4, 3) := by decide +kernel
theorem dX0_isTogether_27 : decode cX0_isTogether 27 = .ok (.iconst 0, 1) := by decide +kernel
theorem dX0_isTogether_28 : decode cX0_isTogether 28 = .ok (.ireturn, 1) := by decide +kernel
theorem dX0_setOff_0 : decode cX0_setOff 0 = .ok (.iload_n 3, 1) := by decide +kernel
theorem dX0_setOff_1 : decode cX0_setOff 1 = .ok (.ifCond .ge 7, 3) := by decide +kernel
theorem dX0_setOff_4 : decode cX0_setOff 4 = .ok (.iconst (-1), 1) := by decide +kernel
theorem dX0_setOff_5 : decode cX0_setOff 5 = .ok (.goto 14, 3) := by decide +kernel
theorem dX0_setOff_8 : decode cX0_setOff 8 = .ok (.aload_n 1, 1) := by decide +kernel
theorem dX0_setOff_9 : decode cX0_setOff 9 = .ok (.iload_n 3, 1) := by decide +kernel
theorem dX0_setOff_10 : decode cX0_setOff 10 = .ok (.aload_n 0, 1) := by decide +kernel
theorem dX0_setOff_11 : decode cX0_setOff 11 = .ok (.getfield 9, 3) := by decide +kernel
theorem dX0_setOff_14 : decode cX0_setOff 14 = .ok (.iload_n 2, 1) := by decide +kernel
theorem dX0_setOff_15 : decode cX0_setOff 15 = .ok (.iaload, 1) := by decide +kernel
theorem dX0_setOff_16 : decode cX0_setOff 16 = .ok (.invokevirtual 49, 3) := by decide +kernel
theorem dX0_setOff_19 : decode cX0_setOff 19 = .ok (.istore 4, 2) := by decide +kernel
theorem dX0_setOff_21 : decode cX0_setOff 21 = .ok (.iload 4, 2) := by decide +kernel
theorem dX0_setOff_23 : decode cX0_setOff 23 = .ok (.ifCond .ge 5, 3) := by decide +kernel
theorem dX0_setOff_26 : decode cX0_setOff 26 = .ok (.iconst 0, 1) := by decide +kernel
theorem dX0_setOff_27 : decode cX0_setOff 27 = .ok (.ireturn, 1) := by decide +kernel
theorem dX0_setOff_28 : decode cX0_setOff 28 = .ok (.aload_n 0, 1) := by decide +kernel
theorem dX0_setOff_29 : decode cX0_setOff 29 = .ok (.getfield 9, 3) := by decide +kernel
theorem dX0_setOff_32 : decode cX0_setOff 32 = .ok (.iload_n 2, 1) := by decide +kernel
theorem dX0_setOff_33 : decode cX0_setOff 33 = .ok (.iconst (-1), 1) := by decide +kernel
theorem dX0_setOff_34 : decode cX0_setOff 34 = .ok (.iastore, 1) := by decide +kernel
theorem dX0_setOff_35 : decode cX0_setOff 35 = .ok (.aload_n 0, 1) := by decide +kernel
theorem dX0_setOff_36 : decode cX0_setOff 36 = .ok (.getfield 15, 3) := by decide +kernel
theorem dX0_setOff_39 : decode cX0_setOff 39 = .ok (.iload_n 2, 1) := by decide +kernel
theorem dX0_setOff_40 : decode cX0_setOff 40 = .ok (.iload_n 3, 1) := by decide +kernel
theorem dX0_setOff_41 : decode cX0_setOff 41 = .ok (.iastore, 1) := by decide +kernel
theorem dX0_setOff_42 : decode cX0_setOff 42 = .ok (.aload_n 0, 1) := by decide +kernel
theorem dX0_setOff_43 : decode cX0_setOff 43 = .ok (.getfield 18, 3) := by decide +kernel
theorem dX0_setOff_46 : decode cX0_setOff 46 = .ok (.iload_n 2, 1) := by decide +kernel
theorem dX0_setOff_47 : decode cX0_setOff 47 = .ok (.iconst 0, 1) := by decide +kernel
theorem dX0_setOff_48 : decode cX0_setOff 48 = .ok (.iastore, 1) := by decide +kernel
theorem dX0_setOff_49 : decode cX0_setOff 49 = .ok (.aload_n 0, 1) := by decide +kernel
theorem dX0_setOff_50 : decode cX0_setOff 50 = .ok (.getfield 21, 3) := by decide +kernel
theorem dX0_setOff_53 : decode cX0_setOff 53 = .ok (.iload_n 2, 1) := by decide +kernel
theorem dX0_setOff_54 : decode cX0_setOff 54 = .ok (.iload 4, 2) := by decide +kernel
theorem dX0_setOff_56 : decode cX0_setOff 56 = .ok (.iastore, 1) := by decide +kernel
theorem dX0_setOff_57 : decode cX0_setOff 57 = .ok (.iconst 1, 1) := by decide +kernel
theorem dX0_setOff_58 : decode cX0_setOff 58 = .ok (.ireturn, 1) := by decide +kernel
theorem dX0_live_0 : decode cX0_live 0 = .ok (.iconst 0, 1) := by decide +kernel
theorem dX0_live_1 : decode cX0_live 1 = .ok (.istore 4, 2) := by decide +kernel
theorem dX0_live_3 : decode cX0_live 3 = .ok (.iload 4, 2) := by decide +kernel
theorem dX0_live_5 : decode cX0_live 5 = .ok (.iload_n 3, 1) := by decide +kernel
theorem dX0_live_6 : decode cX0_live 6 = .ok (.if_icmp .ge 24, 3) := by decide +kernel
theorem dX0_live_9 : decode cX0_live 9 = .ok (.aload_n 2, 1) := by decide +kernel
theorem dX0_live_10 : decode cX0_live 10 = .ok (.ifnull 9, 3) := by decide +kernel
theorem dX0_live_13 : decode cX0_live 13 = .ok (.aload_n 0, 1) := by decide +kernel
theorem dX0_live_14 : decode cX0_live 14 = .ok (.aload_n 1, 1) := by decide +kernel
theorem dX0_live_15 : decode cX0_live 15 = .ok (.aload_n 2, 1) := by decide +kernel
theorem dX0_live_16 : decode cX0_live 16 = .ok (.invokevirtual 55, 3) := by decide +kernel
theorem dX0_live_19 : decode cX0_live 19 = .ok (.aload_n 0, 1) := by decide +kernel
theorem dX0_live_20 : decode cX0_live 20 = .ok (.aload_n 1, 1) := by decide +kernel
theorem dX0_live_21 : decode cX0_live 21 = .ok (.invokevirtual 59, 3) := by decide +kernel
theorem dX0_live_24 : decode cX0_live 24 = .ok (.iinc 4 1, 3) := by decide +kernel
theorem dX0_live_27 : decode cX0_live 27 = .ok (.goto (-24), 3) := by decide +kernel
theorem dX0_live_30 : decode cX0_live 30 = .ok (.return_, 1) := by decide +kernel
theorem dX0_obey_0 : decode cX0_obey 0 = .ok (.iconst 0, 1) := by decide +kernel
theorem dX0_obey_1 : decode cX0_obey 1 = .ok (.istore_n 3, 1) := by decide +kernel
theorem dX0_obey_2 : decode cX0_obey 2 = .ok (.iload_n 3, 1) := by decide +kernel
theorem dX0_obey_3 : decode cX0_obey 3 = .ok (.aload_n 0, 1) := by decide +kernel
theorem dX0_obey_4 : decode cX0_obey 4 = .ok (.getfield 28, 3) := by decide +kernel
theorem dX0_obey_7 : decode cX0_obey 7 = .ok (.if_icmp .ge 63, 3) := by decide +kernel
theorem dX0_obey_10 : decode cX0_obey 10 = .ok (.aload_n 0, 1) := by decide +kernel
theorem dX0_obey_11 : decode cX0_obey 11 = .ok (.iload_n 3, 1) := by decide +kernel
theorem dX0_obey_12 : decode cX0_obey 12 = .ok (.invokevirtual 45, 3) := by decide +kernel
theorem dX0_obey_15 : decode cX0_obey 15 = .ok (.ifCond .ne 6, 3) := by decide +kernel
theorem dX0_obey_18 : decode cX0_obey 18 = .ok (.goto 46, 3) := by decide +kernel
theorem dX0_obey_21 : decode cX0_obey 21 = .ok (.aload_n 2, 1) := by decide +kernel
theorem dX0_obey_22 : decode cX0_obey 22 = .ok (.aload_n 1, 1) := by decide +kernel
theorem dX0_obey_23 : decode cX0_obey 23 = .ok (.aload_n 0, 1) := by decide +kernel
theorem dX0_obey_24 : decode cX0_obey 24 = .ok (.iload_n 3, 1) := by decide +kernel
theorem dX0_obey_25 : decode cX0_obey 25 = .ok (.invokevirtual 63, 3) := by decide +kernel
theorem dX0_obey_28 : decode cX0_obey 28 = .ok (.istore 4, 2) := by decide +kernel
theorem dX0_obey_30 : decode cX0_obey 30 = .ok (.iload 4, 2) := by decide +kernel
theorem dX0_obey_32 : decode cX0_obey 32 = .ok (.iconst 0, 1) := by decide +kernel
theorem dX0_obey_33 : decode cX0_obey 33 = .ok (.aload_n 1, 1) := by decide +kernel
theorem dX0_obey_34 : decode cX0_obey 34 = .ok (.getfield 69, 3) := by decide +kernel
theorem dX0_obey_37 : decode cX0_obey 37 = .ok (.iconst 1, 1) := by decide +kernel
theorem dX0_obey_38 : decode cX0_obey 38 = .ok (.isub, 1) := by decide +kernel
theorem dX0_obey_39 : decode cX0_obey 39 = .ok (.invokestatic 72, 3) := by decide +kernel
theorem dX0_obey_42 : decode cX0_obey 42 = .ok (.ifCond .eq 22, 3) := by decide +kernel
theorem dX0_obey_45 : decode cX0_obey 45 = .ok (.aload_n 0, 1) := by decide +kernel
theorem dX0_obey_46 : decode cX0_obey 46 = .ok (.aload_n 1, 1) := by decide +kernel
theorem dX0_obey_47 : decode cX0_obey 47 = .ok (.iload_n 3, 1) := by decide +kernel
theorem dX0_obey_48 : decode cX0_obey 48 = .ok (.aload_n 1, 1) := by decide +kernel
theorem dX0_obey_49 : decode cX0_obey 49 = .ok (.aload_n 0, 1) := by decide +kernel
theorem dX0_obey_50 : decode cX0_obey 50 = .ok (.getfield 9, 3) := by decide +kernel
theorem dX0_obey_53 : decode cX0_obey 53 = .ok (.iload_n 3, 1) := by decide +kernel
theorem dX0_obey_54 : decode cX0_obey 54 = .ok (.iaload, 1) := by decide +kernel
theorem dX0_obey_55 : decode cX0_obey 55 = .ok (.iload 4, 2) := by decide +kernel
theorem dX0_obey_57 : decode cX0_obey 57 = .ok (.invokevirtual 76, 3) := by decide +kernel
theorem dX0_obey_60 : decode cX0_obey 60 = .ok (.invokevirtual 79, 3) := by decide +kernel
theorem dX0_obey_63 : decode cX0_obey 63 = .ok (.pop, 1) := by decide +kernel
theorem dX0_obey_64 : decode cX0_obey 64 = .ok (.iinc 3 1, 3) := by decide +kernel
theorem dX0_obey_67 : decode cX0_obey 67 = .ok (.goto (-65), 3) := by decide +kernel
theorem dX0_obey_70 : decode cX0_obey 70 = .ok (.return_, 1) := by decide +kernel
theorem dX0_passHour_0 : decode cX0_passHour 0 = .ok (.iconst 0, 1) := by decide +kernel
theorem dX0_passHour_1 : decode cX0_passHour 1 = .ok (.istore_n 2, 1) := by decide +kernel
theorem dX0_passHour_2 : decode cX0_passHour 2 = .ok (.iload_n 2, 1) := by decide +kernel
theorem dX0_passHour_3 : decode cX0_passHour 3 = .ok (.aload_n 0, 1) := by decide +kernel
theorem dX0_passHour_4 : decode cX0_passHour 4 = .ok (.getfield 28, 3) := by decide +kernel
theorem dX0_passHour_7 : decode cX0_passHour 7 = .ok (.if_icmp .ge 98, 3) := by decide +kernel
theorem dX0_passHour_10 : decode cX0_passHour 10 = .ok (.aload_n 0, 1) := by decide +kernel
theorem dX0_passHour_11 : decode cX0_passHour 11 = .ok (.iload_n 2, 1) := by decide +kernel
theorem dX0_passHour_12 : decode cX0_passHour 12 = .ok (.invokevirtual 45, 3) := by decide +kernel
theorem dX0_passHour_15 : decode cX0_passHour 15 = .ok (.ifCond .eq 26, 3) := by decide +kernel
theorem dX0_passHour_18 : decode cX0_passHour 18 = .ok (.aload_n 0, 1) := by decide +kernel
theorem dX0_passHour_19 : decode cX0_passHour 19 = .ok (.getfield 24, 3) := by decide +kernel
theorem dX0_passHour_22 : decode cX0_passHour 22 = .ok (.iload_n 2, 1) := by decide +kernel
theorem dX0_passHour_23 : decode cX0_passHour 23 = .ok (.dup2, 1) := by decide +kernel
theorem dX0_passHour_24 : decode cX0_passHour 24 = .ok (.laload, 1) := by decide +kernel
theorem dX0_passHour_25 : decode cX0_passHour 25 = .ok (.aload_n 1, 1) := by decide +kernel
theorem dX0_passHour_26 : decode cX0_passHour 26 = .ok (.getfield 83, 3) := by decide +kernel
theorem dX0_passHour_29 : decode cX0_passHour 29 = .ok (.aload_n 0, 1) := by decide +kernel
theorem dX0_passHour_30 : decode cX0_passHour 30 = .ok (.getfield 9, 3) := by decide +kernel
theorem dX0_passHour_33 : decode cX0_passHour 33 = .ok (.iload_n 2, 1) := by decide +kernel
theorem dX0_passHour_34 : decode cX0_passHour 34 = .ok (.iaload, 1) := by decide +kernel
theorem dX0_passHour_35 : decode cX0_passHour 35 = .ok (.laload, 1) := by decide +kernel
theorem dX0_passHour_36 : decode cX0_passHour 36 = .ok (.ladd, 1) := by decide +kernel
theorem dX0_passHour_37 : decode cX0_passHour 37 = .ok (.lastore, 1) := by decide +kernel
theorem dX0_passHour_38 : decode cX0_passHour 38 = .ok (.goto 61, 3) := by decide +kernel
theorem dX0_passHour_41 : decode cX0_passHour 41 = .ok (.aload_n 0, 1) := by decide +kernel
theorem dX0_passHour_42 : decode cX0_passHour 42 = .ok (.getfield 15, 3) := by decide +kernel
theorem dX0_passHour_45 : decode cX0_passHour 45 = .ok (.iload_n 2, 1) := by decide +kernel
theorem dX0_passHour_46 : decode cX0_passHour 46 = .ok (.iaload, 1) := by decide +kernel
theorem dX0_passHour_47 : decode cX0_passHour 47 = .ok (.istore_n 3, 1) := by decide +kernel
theorem dX0_passHour_48 : decode cX0_passHour 48 = .ok (.aload_n 0, 1) := by decide +kernel
theorem dX0_passHour_49 : decode cX0_passHour 49 = .ok (.getfield 24, 3) := by decide +kernel
theorem dX0_passHour_52 : decode cX0_passHour 52 = .ok (.iload_n 2, 1) := by decide +kernel
theorem dX0_passHour_53 : decode cX0_passHour 53 = .ok (.dup2, 1) := by decide +kernel
theorem dX0_passHour_54 : decode cX0_passHour 54 = .ok (.laload, 1) := by decide +kernel
theorem dX0_passHour_55 : decode cX0_passHour 55 = .ok (.aload_n 1, 1) := by decide +kernel
theorem dX0_passHour_56 : decode cX0_passHour 56 = .ok (.getfield 86, 3) := by decide +kernel
theorem dX0_passHour_59 : decode cX0_passHour 59 = .ok (.iload_n 3, 1) := by decide +kernel
theorem dX0_passHour_60 : decode cX0_passHour 60 = .ok (.laload, 1) := by decide +kernel
theorem dX0_passHour_61 : decode cX0_passHour 61 = .ok (.ladd, 1) := by decide +kernel
theorem dX0_passHour_62 : decode cX0_passHour 62 = .ok (.lastore, 1) := by decide +kernel
theorem dX0_passHour_63 : decode cX0_passHour 63 = .ok (.aload_n 0, 1) := by decide +kernel
theorem dX0_passHour_64 : decode cX0_passHour 64 = .ok (.getfield 18, 3) := by decide +kernel
theorem dX0_passHour_67 : decode cX0_passHour 67 = .ok (.iload_n 2, 1) := by decide +kernel
theorem dX0_passHour_68 : decode cX0_passHour 68 = .ok (.dup2, 1) := by decide +kernel
theorem dX0_passHour_69 : decode cX0_passHour 69 = .ok (.iaload, 1) := by decide +kernel
theorem dX0_passHour_70 : decode cX0_passHour 70 = .ok (.iconst 1, 1) := by decide +kernel
theorem dX0_passHour_71 : decode cX0_passHour 71 = .ok (.iadd, 1) := by decide +kernel
theorem dX0_passHour_72 : decode cX0_passHour 72 = .ok (.iastore, 1) := by decide +kernel
theorem dX0_passHour_73 : decode cX0_passHour 73 = .ok (.aload_n 0, 1) := by decide +kernel
theorem dX0_passHour_74 : decode cX0_passHour 74 = .ok (.getfield 18, 3) := by decide +kernel
theorem dX0_passHour_77 : decode cX0_passHour 77 = .ok (.iload_n 2, 1) := by decide +kernel
theorem dX0_passHour_78 : decode cX0_passHour 78 = .ok (.iaload, 1) := by decide +kernel
theorem dX0_passHour_79 : decode cX0_passHour 79 = .ok (.aload_n 1, 1) := by decide +kernel
theorem dX0_passHour_80 : decode cX0_passHour 80 = .ok (.getfield 89, 3) := by decide +kernel
theorem dX0_passHour_83 : decode cX0_passHour 83 = .ok (.iload_n 3, 1) := by decide +kernel
theorem dX0_passHour_84 : decode cX0_passHour 84 = .ok (.iaload, 1) := by decide +kernel
theorem dX0_passHour_85 : decode cX0_passHour 85 = .ok (.if_icmp .lt 14, 3) := by decide +kernel
theorem dX0_passHour_88 : decode cX0_passHour 88 = .ok (.aload_n 0, 1) := by decide +kernel
theorem dX0_passHour_89 : decode cX0_passHour 89 = .ok (.iload_n 2, 1) := by decide +kernel
theorem dX0_passHour_90 : decode cX0_passHour 90 = .ok (.aload_n 0, 1) := by decide +kernel
theorem dX0_passHour_91 : decode cX0_passHour 91 = .ok (.getfield 21, 3) := by decide +kernel
theorem dX0_passHour_94 : decode cX0_passHour 94 = .ok (.iload_n 2, 1) := by decide +kernel
theorem dX0_passHour_95 : decode cX0_passHour 95 = .ok (.iaload, 1) := by decide +kernel
theorem dX0_passHour_96 : decode cX0_passHour 96 = .ok (.invokevirtual 41, 3) := by decide +kernel
theorem dX0_passHour_99 : decode cX0_passHour 99 = .ok (.iinc 2 1, 3) := by decide +kernel
theorem dX0_passHour_102 : decode cX0_passHour 102 = .ok (.goto (-100), 3) := by decide +kernel
theorem dX0_passHour_105 : decode cX0_passHour 105 = .ok (.aload_n 0, 1) := by decide +kernel
theorem dX0_passHour_106 : decode cX0_passHour 106 = .ok (.dup, 1) := by decide +kernel
theorem dX0_passHour_107 : decode cX0_passHour 107 = .ok (.getfield 32, 3) := by decide +kernel
theorem dX0_passHour_110 : decode cX0_passHour 110 = .ok (.iconst 1, 1) := by decide +kernel
theorem dX0_passHour_111 : decode cX0_passHour 111 = .ok (.iadd, 1) := by decide +kernel
theorem dX0_passHour_112 : decode cX0_passHour 112 = .ok (.putfield 32, 3) := by decide +kernel
theorem dX0_passHour_115 : decode cX0_passHour 115 = .ok (.return_, 1) := by decide +kernel
theorem dX0_standingOn_0 : decode cX0_standingOn 0 = .ok (.iconst 0, 1) := by decide +kernel
theorem dX0_standingOn_1 : decode cX0_standingOn 1 = .ok (.istore_n 2, 1) := by decide +kernel
theorem dX0_standingOn_2 : decode cX0_standingOn 2 = .ok (.iconst 0, 1) := by decide +kernel
theorem dX0_standingOn_3 : decode cX0_standingOn 3 = .ok (.istore_n 3, 1) := by decide +kernel
theorem dX0_standingOn_4 : decode cX0_standingOn 4 = .ok (.iload_n 3, 1) := by decide +kernel
theorem dX0_standingOn_5 : decode cX0_standingOn 5 = .ok (.aload_n 0, 1) := by decide +kernel
theorem dX0_standingOn_6 : decode cX0_standingOn 6 = .ok (.getfield 28, 3) := by decide +kernel
theorem dX0_standingOn_9 : decode cX0_standingOn 9 = .ok (.if_icmp .ge 27, 3) := by decide +kernel
theorem dX0_standingOn_12 : decode cX0_standingOn 12 = .ok (.iload_n 2, 1) := by decide +kernel
theorem dX0_standingOn_13 : decode cX0_standingOn 13 = .ok (.aload_n 0, 1) := by decide +kernel
theorem dX0_standingOn_14 : decode cX0_standingOn 14 = .ok (.getfield 9, 3) := by decide +kernel
theorem dX0_standingOn_17 : decode cX0_standingOn 17 = .ok (.iload_n 3, 1) := by decide +kernel
theorem dX0_standingOn_18 : decode cX0_standingOn 18 = .ok (.iaload, 1) := by decide +kernel
theorem dX0_standingOn_19 : decode cX0_standingOn 19 = .ok (.iload_n 1, 1) := by decide +kernel
theorem dX0_standingOn_20 : decode cX0_standingOn 20 = .ok (.if_icmp .ne 7, 3) := by decide +kernel
theorem dX0_standingOn_23 : decode cX0_standingOn 23 = .ok (.iconst 1, 1) := by decide +kernel
theorem dX0_standingOn_24 : decode cX0_standingOn 24 = .ok (.goto 4, 3) := by decide +kernel
theorem dX0_standingOn_27 : decode cX0_standingOn 27 = .ok (.iconst 0, 1) := by decide +kernel
theorem dX0_standingOn_28 : decode cX0_standingOn 28 = .ok (.iadd, 1) := by decide +kernel
theorem dX0_standingOn_29 : decode cX0_standingOn 29 = .ok (.istore_n 2, 1) := by decide +kernel
theorem dX0_standingOn_30 : decode cX0_standingOn 30 = .ok (.iinc 3 1, 3) := by decide +kernel
theorem dX0_standingOn_33 : decode cX0_standingOn 33 = .ok (.goto (-29), 3) := by decide +kernel
theorem dX0_standingOn_36 : decode cX0_standingOn 36 = .ok (.iload_n 2, 1) := by decide +kernel
theorem dX0_standingOn_37 : decode cX0_standingOn 37 = .ok (.ireturn, 1) := by decide +kernel
theorem dX0_accompanied_0 : decode cX0_accompanied 0 = .ok (.iconst 0, 1) := by decide +kernel
theorem dX0_accompanied_1 : decode cX0_accompanied 1 = .ok (.istore_n 1, 1) := by decide +kernel
theorem dX0_accompanied_2 : decode cX0_accompanied 2 = .ok (.iconst 0, 1) := by decide +kernel
theorem dX0_accompanied_3 : decode cX0_accompanied 3 = .ok (.istore_n 2, 1) := by decide +kernel
theorem dX0_accompanied_4 : decode cX0_accompanied 4 = .ok (.iload_n 2, 1) := by decide +kernel
theorem dX0_accompanied_5 : decode cX0_accompanied 5 = .ok (.aload_n 0, 1) := by decide +kernel
theorem dX0_accompanied_6 : decode cX0_accompanied 6 = .ok (.getfield 28, 3) := by decide +kernel
theorem dX0_accompanied_9 : decode cX0_accompanied 9 = .ok (.if_icmp .ge 39, 3) := by decide +kernel
theorem dX0_accompanied_12 : decode cX0_accompanied 12 = .ok (.iload_n 1, 1) := by decide +kernel
theorem dX0_accompanied_13 : decode cX0_accompanied 13 = .ok (.aload_n 0, 1) := by decide +kernel
theorem dX0_accompanied_14 : decode cX0_accompanied 14 = .ok (.iload_n 2, 1) := by decide +kernel
theorem dX0_accompanied_15 : decode cX0_accompanied 15 = .ok (.invokevirtual 45, 3) := by decide +kernel
theorem dX0_accompanied_18 : decode cX0_accompanied 18 = .ok (.ifCond .eq 21, 3) := by decide +kernel
theorem dX0_accompanied_21 : decode cX0_accompanied 21 = .ok (.aload_n 0, 1) := by decide +kernel
theorem dX0_accompanied_22 : decode cX0_accompanied 22 = .ok (.aload_n 0, 1) := by decide +kernel
theorem dX0_accompanied_23 : decode cX0_accompanied 23 = .ok (.getfield 9, 3) := by decide +kernel
theorem dX0_accompanied_26 : decode cX0_accompanied 26 = .ok (.iload_n 2, 1) := by decide +kernel
theorem dX0_accompanied_27 : decode cX0_accompanied 27 = .ok (.iaload, 1) := by decide +kernel
theorem dX0_accompanied_28 : decode cX0_accompanied 28 = .ok (.invokevirtual 92, 3) := by decide +kernel
theorem dX0_accompanied_31 : decode cX0_accompanied 31 = .ok (.iconst 1, 1) := by decide +kernel
theorem dX0_accompanied_32 : decode cX0_accompanied 32 = .ok (.if_icmp .le 7, 3) := by decide +kernel
theorem dX0_accompanied_35 : decode cX0_accompanied 35 = .ok (.iconst 1, 1) := by decide +kernel
theorem dX0_accompanied_36 : decode cX0_accompanied 36 = .ok (.goto 4, 3) := by decide +kernel
theorem dX0_accompanied_39 : decode cX0_accompanied 39 = .ok (.iconst 0, 1) := by decide +kernel
theorem dX0_accompanied_40 : decode cX0_accompanied 40 = .ok (.iadd, 1) := by decide +kernel
theorem dX0_accompanied_41 : decode cX0_accompanied 41 = .ok (.istore_n 1, 1) := by decide +kernel
theorem dX0_accompanied_42 : decode cX0_accompanied 42 = .ok (.iinc 2 1, 3) := by decide +kernel
theorem dX0_accompanied_45 : decode cX0_accompanied 45 = .ok (.goto (-41), 3) := by decide +kernel
theorem dX0_accompanied_48 : decode cX0_accompanied 48 = .ok (.iload_n 1, 1) := by decide +kernel
theorem dX0_accompanied_49 : decode cX0_accompanied 49 = .ok (.ireturn, 1) := by decide +kernel
theorem dX0_going_0 : decode cX0_going 0 = .ok (.iconst 0, 1) := by decide +kernel
theorem dX0_going_1 : decode cX0_going 1 = .ok (.istore_n 1, 1) := by decide +kernel
theorem dX0_going_2 : decode cX0_going 2 = .ok (.iconst 0, 1) := by decide +kernel
theorem dX0_going_3 : decode cX0_going 3 = .ok (.istore_n 2, 1) := by decide +kernel
theorem dX0_going_4 : decode cX0_going 4 = .ok (.iload_n 2, 1) := by decide +kernel
theorem dX0_going_5 : decode cX0_going 5 = .ok (.aload_n 0, 1) := by decide +kernel
theorem dX0_going_6 : decode cX0_going 6 = .ok (.getfield 28, 3) := by decide +kernel
theorem dX0_going_9 : decode cX0_going 9 = .ok (.if_icmp .ge 25, 3) := by decide +kernel
theorem dX0_going_12 : decode cX0_going 12 = .ok (.iload_n 1, 1) := by decide +kernel
theorem dX0_going_13 : decode cX0_going 13 = .ok (.aload_n 0, 1) := by decide +kernel
theorem dX0_going_14 : decode cX0_going 14 = .ok (.iload_n 2, 1) := by decide +kernel
theorem dX0_going_15 : decode cX0_going 15 = .ok (.invokevirtual 45, 3) := by decide +kernel
theorem dX0_going_18 : decode cX0_going 18 = .ok (.ifCond .eq 7, 3) := by decide +kernel
theorem dX0_going_21 : decode cX0_going 21 = .ok (.iconst 0, 1) := by decide +kernel
theorem dX0_going_22 : decode cX0_going 22 = .ok (.goto 4, 3) := by decide +kernel
theorem dX0_going_25 : decode cX0_going 25 = .ok (.iconst 1, 1) := by decide +kernel
theorem dX0_going_26 : decode cX0_going 26 = .ok (.iadd, 1) := by decide +kernel
theorem dX0_going_27 : decode cX0_going 27 = .ok (.istore_n 1, 1) := by decide +kernel
theorem dX0_going_28 : decode cX0_going 28 = .ok (.iinc 2 1, 3) := by decide +kernel
theorem dX0_going_31 : decode cX0_going 31 = .ok (.goto (-27), 3) := by decide +kernel
theorem dX0_going_34 : decode cX0_going 34 = .ok (.iload_n 1, 1) := by decide +kernel
theorem dX0_going_35 : decode cX0_going 35 = .ok (.ireturn, 1) := by decide +kernel
theorem dX0_eldest_0 : decode cX0_eldest 0 = .ok (.iconst 0, 1) := by decide +kernel
theorem dX0_eldest_1 : decode cX0_eldest 1 = .ok (.istore_n 1, 1) := by decide +kernel
theorem dX0_eldest_2 : decode cX0_eldest 2 = .ok (.iconst 1, 1) := by decide +kernel
theorem dX0_eldest_3 : decode cX0_eldest 3 = .ok (.istore_n 2, 1) := by decide +kernel
theorem dX0_eldest_4 : decode cX0_eldest 4 = .ok (.iload_n 2, 1) := by decide +kernel
theorem dX0_eldest_5 : decode cX0_eldest 5 = .ok (.aload_n 0, 1) := by decide +kernel
theorem dX0_eldest_6 : decode cX0_eldest 6 = .ok (.getfield 28, 3) := by decide +kernel
theorem dX0_eldest_9 : decode cX0_eldest 9 = .ok (.if_icmp .ge 31, 3) := by decide +kernel
theorem dX0_eldest_12 : decode cX0_eldest 12 = .ok (.aload_n 0, 1) := by decide +kernel
theorem dX0_eldest_13 : decode cX0_eldest 13 = .ok (.getfield 24, 3) := by decide +kernel
theorem dX0_eldest_16 : decode cX0_eldest 16 = .ok (.iload_n 2, 1) := by decide +kernel
theorem dX0_eldest_17 : decode cX0_eldest 17 = .ok (.laload, 1) := by decide +kernel
theorem dX0_eldest_18 : decode cX0_eldest 18 = .ok (.aload_n 0, 1) := by decide +kernel
theorem dX0_eldest_19 : decode cX0_eldest 19 = .ok (.getfield 24, 3) := by decide +kernel
theorem dX0_eldest_22 : decode cX0_eldest 22 = .ok (.iload_n 1, 1) := by decide +kernel
theorem dX0_eldest_23 : decode cX0_eldest 23 = .ok (.laload, 1) := by decide +kernel
theorem dX0_eldest_24 : decode cX0_eldest 24 = .ok (.lcmp, 1) := by decide +kernel
theorem dX0_eldest_25 : decode cX0_eldest 25 = .ok (.ifCond .le 7, 3) := by decide +kernel
theorem dX0_eldest_28 : decode cX0_eldest 28 = .ok (.iload_n 2, 1) := by decide +kernel
theorem dX0_eldest_29 : decode cX0_eldest 29 = .ok (.goto 4, 3) := by decide +kernel
theorem dX0_eldest_32 : decode cX0_eldest 32 = .ok (.iload_n 1, 1) := by decide +kernel
theorem dX0_eldest_33 : decode cX0_eldest 33 = .ok (.istore_n 1, 1) := by decide +kernel
theorem dX0_eldest_34 : decode cX0_eldest 34 = .ok (.iinc 2 1, 3) := by decide +kernel
theorem dX0_eldest_37 : decode cX0_eldest 37 = .ok (.goto (-33), 3) := by decide +kernel
theorem dX0_eldest_40 : decode cX0_eldest 40 = .ok (.iload_n 1, 1) := by decide +kernel
theorem dX0_eldest_41 : decode cX0_eldest 41 = .ok (.ireturn, 1) := by decide +kernel
theorem dX0_youngest_0 : decode cX0_youngest 0 = .ok (.iconst 0, 1) := by decide +kernel
theorem dX0_youngest_1 : decode cX0_youngest 1 = .ok (.istore_n 1, 1) := by decide +kernel
theorem dX0_youngest_2 : decode cX0_youngest 2 = .ok (.iconst 1, 1) := by decide +kernel
theorem dX0_youngest_3 : decode cX0_youngest 3 = .ok (.istore_n 2, 1) := by decide +kernel
theorem dX0_youngest_4 : decode cX0_youngest 4 = .ok (.iload_n 2, 1) := by decide +kernel
theorem dX0_youngest_5 : decode cX0_youngest 5 = .ok (.aload_n 0, 1) := by decide +kernel
theorem dX0_youngest_6 : decode cX0_youngest 6 = .ok (.getfield 28, 3) := by decide +kernel
theorem dX0_youngest_9 : decode cX0_youngest 9 = .ok (.if_icmp .ge 31, 3) := by decide +kernel
theorem dX0_youngest_12 : decode cX0_youngest 12 = .ok (.aload_n 0, 1) := by decide +kernel
theorem dX0_youngest_13 : decode cX0_youngest 13 = .ok (.getfield 24, 3) := by decide +kernel
theorem dX0_youngest_16 : decode cX0_youngest 16 = .ok (.iload_n 2, 1) := by decide +kernel
theorem dX0_youngest_17 : decode cX0_youngest 17 = .ok (.laload, 1) := by decide +kernel
theorem dX0_youngest_18 : decode cX0_youngest 18 = .ok (.aload_n 0, 1) := by decide +kernel
theorem dX0_youngest_19 : decode cX0_youngest 19 = .ok (.getfield 24, 3) := by decide +kernel
theorem dX0_youngest_22 : decode cX0_youngest 22 = .ok (.iload_n 1, 1) := by decide +kernel
theorem dX0_youngest_23 : decode cX0_youngest 23 = .ok (.laload, 1) := by decide +kernel
theorem dX0_youngest_24 : decode cX0_youngest 24 = .ok (.lcmp, 1) := by decide +kernel
theorem dX0_youngest_25 : decode cX0_youngest 25 = .ok (.ifCond .ge 7, 3) := by decide +kernel
theorem dX0_youngest_28 : decode cX0_youngest 28 = .ok (.iload_n 2, 1) := by decide +kernel
theorem dX0_youngest_29 : decode cX0_youngest 29 = .ok (.goto 4, 3) := by decide +kernel
theorem dX0_youngest_32 : decode cX0_youngest 32 = .ok (.iload_n 1, 1) := by decide +kernel
theorem dX0_youngest_33 : decode cX0_youngest 33 = .ok (.istore_n 1, 1) := by decide +kernel
theorem dX0_youngest_34 : decode cX0_youngest 34 = .ok (.iinc 2 1, 3) := by decide +kernel
theorem dX0_youngest_37 : decode cX0_youngest 37 = .ok (.goto (-33), 3) := by decide +kernel
theorem dX0_youngest_40 : decode cX0_youngest 40 = .ok (.iload_n 1, 1) := by decide +kernel
theorem dX0_youngest_41 : decode cX0_youngest 41 = .ok (.ireturn, 1) := by decide +kernel
theorem dX0_wordOf_0 : decode cX0_wordOf 0 = .ok (.iload_n 3, 1) := by decide +kernel
theorem dX0_wordOf_1 : decode cX0_wordOf 1 = .ok (.tableswitch 128 0 6 #[43, 49, 52, 60, 71, 83, 103], 43) := by decide +kernel
theorem dX0_wordOf_44 : decode cX0_wordOf 44 = .ok (.aload_n 0, 1) := by decide +kernel
theorem dX0_wordOf_45 : decode cX0_wordOf 45 = .ok (.getfield 32, 3) := by decide +kernel
theorem dX0_wordOf_48 : decode cX0_wordOf 48 = .ok (.i2l, 1) := by decide +kernel
theorem dX0_wordOf_49 : decode cX0_wordOf 49 = .ok (.lreturn, 1) := by decide +kernel
theorem dX0_wordOf_50 : decode cX0_wordOf 50 = .ok (.iload_n 2, 1) := by decide +kernel
theorem dX0_wordOf_51 : decode cX0_wordOf 51 = .ok (.i2l, 1) := by decide +kernel
theorem dX0_wordOf_52 : decode cX0_wordOf 52 = .ok (.lreturn, 1) := by decide +kernel
theorem dX0_wordOf_53 : decode cX0_wordOf 53 = .ok (.aload_n 0, 1) := by decide +kernel
theorem dX0_wordOf_54 : decode cX0_wordOf 54 = .ok (.getfield 9, 3) := by decide +kernel
theorem dX0_wordOf_57 : decode cX0_wordOf 57 = .ok (.iload_n 2, 1) := by decide +kernel
theorem dX0_wordOf_58 : decode cX0_wordOf 58 = .ok (.iaload, 1) := by decide +kernel
theorem dX0_wordOf_59 : decode cX0_wordOf 59 = .ok (.i2l, 1) := by decide +kernel
theorem dX0_wordOf_60 : decode cX0_wordOf 60 = .ok (.lreturn, 1) := by decide +kernel
theorem dX0_wordOf_61 : decode cX0_wordOf 61 = .ok (.aload_n 0, 1) := by decide +kernel
theorem dX0_wordOf_62 : decode cX0_wordOf 62 = .ok (.getfield 24, 3) := by decide +kernel
theorem dX0_wordOf_65 : decode cX0_wordOf 65 = .ok (.iload_n 2, 1) := by decide +kernel
theorem dX0_wordOf_66 : decode cX0_wordOf 66 = .ok (.laload, 1) := by decide +kernel
theorem dX0_wordOf_67 : decode cX0_wordOf 67 = .ok (.ldc2_w 96, 3) := by decide +kernel
theorem dX0_wordOf_70 : decode cX0_wordOf 70 = .ok (.ldiv, 1) := by decide +kernel
theorem dX0_wordOf_71 : decode cX0_wordOf 71 = .ok (.lreturn, 1) := by decide +kernel
theorem dX0_wordOf_72 : decode cX0_wordOf 72 = .ok (.aload_n 0, 1) := by decide +kernel
theorem dX0_wordOf_73 : decode cX0_wordOf 73 = .ok (.aload_n 0, 1) := by decide +kernel
theorem dX0_wordOf_74 : decode cX0_wordOf 74 = .ok (.getfield 9, 3) := by decide +kernel
theorem dX0_wordOf_77 : decode cX0_wordOf 77 = .ok (.iload_n 2, 1) := by decide +kernel
theorem dX0_wordOf_78 : decode cX0_wordOf 78 = .ok (.iaload, 1) := by decide +kernel
theorem dX0_wordOf_79 : decode cX0_wordOf 79 = .ok (.invokevirtual 92, 3) := by decide +kernel
theorem dX0_wordOf_82 : decode cX0_wordOf 82 = .ok (.i2l, 1) := by decide +kernel
theorem dX0_wordOf_83 : decode cX0_wordOf 83 = .ok (.lreturn, 1) := by decide +kernel
theorem dX0_wordOf_84 : decode cX0_wordOf 84 = .ok (.ldc2_w 98, 3) := by decide +kernel
theorem dX0_wordOf_87 : decode cX0_wordOf 87 = .ok (.aload_n 1, 1) := by decide +kernel
theorem dX0_wordOf_88 : decode cX0_wordOf 88 = .ok (.getfield 83, 3) := by decide +kernel
theorem dX0_wordOf_91 : decode cX0_wordOf 91 = .ok (.aload_n 0, 1) := by decide +kernel
theorem dX0_wordOf_92 : decode cX0_wordOf 92 = .ok (.getfield 9, 3) := by decide +kernel
theorem dX0_wordOf_95 : decode cX0_wordOf 95 = .ok (.iload_n 2, 1) := by decide +kernel
theorem dX0_wordOf_96 : decode cX0_wordOf 96 = .ok (.iaload, 1) := by decide +kernel
theorem dX0_wordOf_97 : decode cX0_wordOf 97 = .ok (.laload, 1) := by decide +kernel
theorem dX0_wordOf_98 : decode cX0_wordOf 98 = .ok (.lmul, 1) := by decide +kernel
theorem dX0_wordOf_99 : decode cX0_wordOf 99 = .ok (.ldc2_w 96, 3) := by decide +kernel
theorem dX0_wordOf_102 : decode cX0_wordOf 102 = .ok (.ldiv, 1) := by decide +kernel
theorem dX0_wordOf_103 : decode cX0_wordOf 103 = .ok (.lreturn, 1) := by decide +kernel
theorem dX0_wordOf_104 : decode cX0_wordOf 104 = .ok (.aload_n 0, 1) := by decide +kernel
theorem dX0_wordOf_105 : decode cX0_wordOf 105 = .ok (.getfield 24, 3) := by decide +kernel
theorem dX0_wordOf_108 : decode cX0_wordOf 108 = .ok (.iload_n 2, 1) := by decide +kernel
theorem dX0_wordOf_109 : decode cX0_wordOf 109 = .ok (.laload, 1) := by decide +kernel
theorem dX0_wordOf_110 : decode cX0_wordOf 110 = .ok (.aload_n 0, 1) := by decide +kernel
theorem dX0_wordOf_111 : decode cX0_wordOf 111 = .ok (.getfield 24, 3) := by decide +kernel
theorem dX0_wordOf_114 : decode cX0_wordOf 114 = .ok (.aload_n 0, 1) := by decide +kernel
theorem dX0_wordOf_115 : decode cX0_wordOf 115 = .ok (.invokevirtual 100, 3) := by decide +kernel
theorem dX0_wordOf_118 : decode cX0_wordOf 118 = .ok (.laload, 1) := by decide +kernel
theorem dX0_wordOf_119 : decode cX0_wordOf 119 = .ok (.lcmp, 1) := by decide +kernel
theorem dX0_wordOf_120 : decode cX0_wordOf 120 = .ok (.ifCond .ne 7, 3) := by decide +kernel
theorem dX0_wordOf_123 : decode cX0_wordOf 123 = .ok (.lconst 1, 1) := by decide +kernel
theorem dX0_wordOf_124 : decode cX0_wordOf 124 = .ok (.goto 4, 3) := by decide +kernel
theorem dX0_wordOf_127 : decode cX0_wordOf 127 = .ok (.lconst 0, 1) := by decide +kernel
theorem dX0_wordOf_128 : decode cX0_wordOf 128 = .ok (.lreturn, 1) := by decide +kernel
theorem dX0_wordOf_129 : decode cX0_wordOf 129 = .ok (.aload_n 0, 1) := by decide +kernel
theorem dX0_wordOf_130 : decode cX0_wordOf 130 = .ok (.getfield 24, 3) := by decide +kernel
theorem dX0_wordOf_133 : decode cX0_wordOf 133 = .ok (.iload_n 2, 1) := by decide +kernel
theorem dX0_wordOf_134 : decode cX0_wordOf 134 = .ok (.laload, 1) := by decide +kernel
theorem dX0_wordOf_135 : decode cX0_wordOf 135 = .ok (.aload_n 0, 1) := by decide +kernel
theorem dX0_wordOf_136 : decode cX0_wordOf 136 = .ok (.getfield 24, 3) := by decide +kernel
theorem dX0_wordOf_139 : decode cX0_wordOf 139 = .ok (.aload_n 0, 1) := by decide +kernel
theorem dX0_wordOf_140 : decode cX0_wordOf 140 = .ok (.invokevirtual 104, 3) := by decide +kernel
theorem dX0_wordOf_143 : decode cX0_wordOf 143 = .ok (.laload, 1) := by decide +kernel
theorem dX0_wordOf_144 : decode cX0_wordOf 144 = .ok (.lcmp, 1) := by decide +kernel
theorem dX0_wordOf_145 : decode cX0_wordOf 145 = .ok (.ifCond .ne 7, 3) := by decide +kernel
theorem dX0_wordOf_148 : decode cX0_wordOf 148 = .ok (.lconst 1, 1) := by decide +kernel
theorem dX0_wordOf_149 : decode cX0_wordOf 149 = .ok (.goto 4, 3) := by decide +kernel
theorem dX0_wordOf_152 : decode cX0_wordOf 152 = .ok (.lconst 0, 1) := by decide +kernel
theorem dX0_wordOf_153 : decode cX0_wordOf 153 = .ok (.lreturn, 1) := by decide +kernel
theorem dX1_init_0 : decode cX1_init 0 = .ok (.aload_n 0, 1) := by decide +kernel
theorem dX1_init_1 : decode cX1_init 1 = .ok (.invokespecial 3, 3) := by decide +kernel
theorem dX1_init_4 : decode cX1_init 4 = .ok (.aload_n 0, 1) := by decide +kernel
theorem dX1_init_5 : decode cX1_init 5 = .ok (.sipush 1210, 3) := by decide +kernel
theorem dX1_init_8 : decode cX1_init 8 = .ok (.newarray .long, 2) := by decide +kernel
theorem dX1_init_10 : decode cX1_init 10 = .ok (.putfield 9, 3) := by decide +kernel
theorem dX1_init_13 : decode cX1_init 13 = .ok (.return_, 1) := by decide +kernel
theorem dX1_measure_0 : decode cX1_measure 0 = .ok (.iconst 0, 1) := by decide +kernel
theorem dX1_measure_1 : decode cX1_measure 1 = .ok (.istore 5, 2) := by decide +kernel
theorem dX1_measure_3 : decode cX1_measure 3 = .ok (.iload 5, 2) := by decide +kernel
theorem dX1_measure_5 : decode cX1_measure 5 = .ok (.bipush 10, 2) := by decide +kernel
theorem dX1_measure_7 : decode cX1_measure 7 = .ok (.if_icmp .ge 29, 3) := by decide +kernel
theorem dX1_measure_10 : decode cX1_measure 10 = .ok (.aload_n 0, 1) := by decide +kernel
theorem dX1_measure_11 : decode cX1_measure 11 = .ok (.getfield 9, 3) := by decide +kernel
theorem dX1_measure_14 : decode cX1_measure 14 = .ok (.iload 5, 2) := by decide +kernel
theorem dX1_measure_16 : decode cX1_measure 16 = .ok (.iload 5, 2) := by decide +kernel
theorem dX1_measure_18 : decode cX1_measure 18 = .ok (.iload_n 2, 1) := by decide +kernel
theorem dX1_measure_19 : decode cX1_measure 19 = .ok (.if_icmp .ne 7, 3) := by decide +kernel
theorem dX1_measure_22 : decode cX1_measure 22 = .ok (.lconst 0, 1) := by decide +kernel
theorem dX1_measure_23 : decode cX1_measure 23 = .ok (.goto 6, 3) := by decide +kernel
theorem dX1_measure_26 : decode cX1_measure 26 = .ok (.ldc2_w 15, 3) := by decide +kernel
theorem dX1_measure_29 : decode cX1_measure 29 = .ok (.lastore, 1) := by decide +kernel
theorem dX1_measure_30 : decode cX1_measure 30 = .ok (.iinc 5 1, 3) := by decide +kernel
theorem dX1_measure_33 : decode cX1_measure 33 = .ok (.goto (-30), 3) := by decide +kernel
theorem dX1_measure_36 : decode cX1_measure 36 = .ok (.iconst 1, 1) := by decide +kernel
theorem dX1_measure_37 : decode cX1_measure 37 = .ok (.istore 5, 2) := by decide +kernel
theorem dX1_measure_39 : decode cX1_measure 39 = .ok (.iload 5, 2) := by decide +kernel
theorem dX1_measure_41 : decode cX1_measure 41 = .ok (.iload_n 3, 1) := by decide +kernel
theorem dX1_measure_42 : decode cX1_measure 42 = .ok (.if_icmp .gt 58, 3) := by decide +kernel
theorem dX1_measure_45 : decode cX1_measure 45 = .ok (.iload 5, 2) := by decide +kernel
theorem dX1_measure_47 : decode cX1_measure 47 = .ok (.bipush 120, 2) := by decide +kernel
theorem dX1_measure_49 : decode cX1_measure 49 = .ok (.if_icmp .gt 51, 3) := by decide +kernel
theorem dX1_measure_52 : decode cX1_measure 52 = .ok (.iconst 0, 1) := by decide +kernel
theorem dX1_measure_53 : decode cX1_measure 53 = .ok (.istore 6, 2) := by decide +kernel
theorem dX1_measure_55 : decode cX1_measure 55 = .ok (.iload 6, 2) := by decide +kernel
theorem dX1_measure_57 : decode cX1_measure 57 = .ok (.aload_n 1, 1) := by decide +kernel
theorem dX1_measure_58 : decode cX1_measure 58 = .ok (.getfield 17, 3) := by decide +kernel
theorem dX1_measure_61 : decode cX1_measure 61 = .ok (.if_icmp .ge 33, 3) := by decide +kernel
theorem dX1_measure_64 : decode cX1_measure 64 = .ok (.aload_n 0, 1) := by decide +kernel
theorem dX1_measure_65 : decode cX1_measure 65 = .ok (.getfield 9, 3) := by decide +kernel
theorem dX1_measure_68 : decode cX1_measure 68 = .ok (.iload 5, 2) := by decide +kernel
theorem dX1_measure_70 : decode cX1_measure 70 = .ok (.bipush 10, 2) := by decide +kernel
theorem dX1_measure_72 : decode cX1_measure 72 = .ok (.imul, 1) := by decide +kernel
theorem dX1_measure_73 : decode cX1_measure 73 = .ok (.iload 6, 2) := by decide +kernel
theorem dX1_measure_75 : decode cX1_measure 75 = .ok (.iadd, 1) := by decide +kernel
theorem dX1_measure_76 : decode cX1_measure 76 = .ok (.aload_n 0, 1) := by decide +kernel
theorem dX1_measure_77 : decode cX1_measure 77 = .ok (.aload_n 1, 1) := by decide +kernel
theorem dX1_measure_78 : decode cX1_measure 78 = .ok (.iload 5, 2) := by decide +kernel
theorem dX1_measure_80 : decode cX1_measure 80 = .ok (.iload 6, 2) := by decide +kernel
theorem dX1_measure_82 : decode cX1_measure 82 = .ok (.iload 4, 2) := by decide +kernel
theorem dX1_measure_84 : decode cX1_measure 84 = .ok (.invokevirtual 23, 3) := by decide +kernel
theorem dX1_measure_87 : decode cX1_measure 87 = .ok (.lastore, 1) := by decide +kernel
theorem dX1_measure_88 : decode cX1_measure 88 = .ok (.iinc 6 1, 3) := by decide +kernel
theorem dX1_measure_91 : decode cX1_measure 91 = .ok (.goto (-36), 3) := by decide +kernel
theorem dX1_measure_94 : decode cX1_measure 94 = .ok (.iinc 5 1, 3) := by decide +kernel
theorem dX1_measure_97 : decode cX1_measure 97 = .ok (.goto (-58), 3) := by decide +kernel
theorem dX1_measure_100 : decode cX1_measure 100 = .ok (.return_, 1) := by decide +kernel
theorem dX1_bestGain_0 : decode cX1_bestGain 0 = .ok (.aload_n 0, 1) := by decide +kernel
theorem dX1_bestGain_1 : decode cX1_bestGain 1 = .ok (.aload_n 1, 1) := by decide +kernel
theorem dX1_bestGain_2 : decode cX1_bestGain 2 = .ok (.iload_n 2, 1) := by decide +kernel
theorem dX1_bestGain_3 : decode cX1_bestGain 3 = .ok (.iload_n 3, 1) := by decide +kernel
theorem dX1_bestGain_4 : decode cX1_bestGain 4 = .ok (.invokevirtual 27, 3) := by decide +kernel
theorem dX1_bestGain_7 : decode cX1_bestGain 7 = .ok (.lstore 5, 2) := by decide +kernel
theorem dX1_bestGain_9 : decode cX1_bestGain 9 = .ok (.iconst 0, 1) := by decide +kernel
theorem dX1_bestGain_10 : decode cX1_bestGain 10 = .ok (.istore 7, 2) := by decide +kernel
theorem dX1_bestGain_12 : decode cX1_bestGain 12 = .ok (.iload 7, 2) := by decide +kernel
theorem dX1_bestGain_14 : decode cX1_bestGain 14 = .ok (.aload_n 1, 1) := by decide +kernel
theorem dX1_bestGain_15 : decode cX1_bestGain 15 = .ok (.getfield 31, 3) := by decide +kernel
theorem dX1_bestGain_18 : decode cX1_bestGain 18 = .ok (.if_icmp .ge 41, 3) := by decide +kernel
theorem dX1_bestGain_21 : decode cX1_bestGain 21 = .ok (.aload_n 0, 1) := by decide +kernel
theorem dX1_bestGain_22 : decode cX1_bestGain 22 = .ok (.aload_n 1, 1) := by decide +kernel
theorem dX1_bestGain_23 : decode cX1_bestGain 23 = .ok (.iload_n 2, 1) := by decide +kernel
theorem dX1_bestGain_24 : decode cX1_bestGain 24 = .ok (.iload_n 3, 1) := by decide +kernel
theorem dX1_bestGain_25 : decode cX1_bestGain 25 = .ok (.iload 7, 2) := by decide +kernel
theorem dX1_bestGain_27 : decode cX1_bestGain 27 = .ok (.invokevirtual 34, 3) := by decide +kernel
theorem dX1_bestGain_30 : decode cX1_bestGain 30 = .ok (.lstore 8, 2) := by decide +kernel
theorem dX1_bestGain_32 : decode cX1_bestGain 32 = .ok (.lload 8, 2) := by decide +kernel
theorem dX1_bestGain_34 : decode cX1_bestGain 34 = .ok (.lload 5, 2) := by decide +kernel
theorem dX1_bestGain_36 : decode cX1_bestGain 36 = .ok (.iload 4, 2) := by decide +kernel
theorem dX1_bestGain_38 : decode cX1_bestGain 38 = .ok (.invokestatic 38, 3) := by decide +kernel
theorem dX1_bestGain_41 : decode cX1_bestGain 41 = .ok (.ifCond .eq 8, 3) := by decide +kernel
theorem dX1_bestGain_44 : decode cX1_bestGain 44 = .ok (.lload 8, 2) := by decide +kernel
theorem dX1_bestGain_46 : decode cX1_bestGain 46 = .ok (.goto 5, 3) := by decide +kernel
theorem dX1_bestGain_49 : decode cX1_bestGain 49 = .ok (.lload 5, 2) := by decide +kernel
theorem dX1_bestGain_51 : decode cX1_bestGain 51 = .ok (.lstore 5, 2) := by decide +kernel
theorem dX1_bestGain_53 : decode cX1_bestGain 53 = .ok (.iinc 7 1, 3) := by decide +kernel
theorem dX1_bestGain_56 : decode cX1_bestGain 56 = .ok (.goto (-44), 3) := by decide +kernel
theorem dX1_bestGain_59 : decode cX1_bestGain 59 = .ok (.lload 5, 2) := by decide +kernel
theorem dX1_bestGain_61 : decode cX1_bestGain 61 = .ok (.lreturn, 1) := by decide +kernel
theorem dX1_isBetter_0 : decode cX1_isBetter 0 = .ok (.lload_n 0, 1) := by decide +kernel
theorem dX1_isBetter_1 : decode cX1_isBetter 1 = .ok (.lconst 0, 1) := by decide +kernel
theorem dX1_isBetter_2 : decode cX1_isBetter 2 = .ok (.lcmp, 1) := by decide +kernel
theorem dX1_isBetter_3 : decode cX1_isBetter 3 = .ok (.ifCond .lt 9, 3) := by decide +kernel
theorem dX1_isBetter_6 : decode cX1_isBetter 6 = .ok (.lload_n 2, 1) := by decide +kernel
theorem dX1_isBetter_7 : decode cX1_isBetter 7 = .ok (.lconst 0, 1) := by decide +kernel
theorem dX1_isBetter_8 : decode cX1_isBetter 8 = .ok (.lcmp, 1) := by decide +kernel
theorem dX1_isBetter_9 : decode cX1_isBetter 9 = .ok (.ifCond .ge 15, 3) := by decide +kernel
theorem dX1_isBetter_12 : decode cX1_isBetter 12 = .ok (.lload_n 0, 1) := by decide +kernel
theorem dX1_isBetter_13 : decode cX1_isBetter 13 = .ok (.lconst 0, 1) := by decide +kernel
theorem dX1_isBetter_14 : decode cX1_isBetter 14 = .ok (.lcmp, 1) := by decide +kernel
theorem dX1_isBetter_15 : decode cX1_isBetter 15 = .ok (.ifCond .lt 7, 3) := by decide +kernel
theorem dX1_isBetter_18 : decode cX1_isBetter 18 = .ok (.iconst 1, 1) := by decide +kernel
theorem dX1_isBetter_19 : decode cX1_isBetter 19 = .ok (.goto 4, 3) := by decide +kernel
theorem dX1_isBetter_22 : decode cX1_isBetter 22 = .ok (.iconst 0, 1) := by decide +kernel
theorem dX1_isBetter_23 : decode cX1_isBetter 23 = .ok (.ireturn, 1) := by decide +kernel
theorem dX1_isBetter_24 : decode cX1_isBetter 24 = .ok (.iload 4, 2) := by decide +kernel
theorem dX1_isBetter_26 : decode cX1_isBetter 26 = .ok (.ifCond .eq 17, 3) := by decide +kernel
theorem dX1_isBetter_29 : decode cX1_isBetter 29 = .ok (.lload_n 0, 1) := by decide +kernel
theorem dX1_isBetter_30 : decode cX1_isBetter 30 = .ok (.lload_n 2, 1) := by decide +kernel
theorem dX1_isBetter_31 : decode cX1_isBetter 31 = .ok (.lcmp, 1) := by decide +kernel
theorem dX1_isBetter_32 : decode cX1_isBetter 32 = .ok (.ifCond .le 7, 3) := by decide +kernel
theorem dX1_isBetter_35 : decode cX1_isBetter 35 = .ok (.iconst 1, 1) := by decide +kernel
theorem dX1_isBetter_36 : decode cX1_isBetter 36 = .ok (.goto 18, 3) := by decide +kernel
theorem dX1_isBetter_39 : decode cX1_isBetter 39 = .ok (.iconst 0, 1) := by decide +kernel
theorem dX1_isBetter_40 : decode cX1_isBetter 40 = .ok (.goto 14, 3) := by decide +kernel
theorem dX1_isBetter_43 : decode cX1_isBetter 43 = .ok (.lload_n 0, 1) := by decide +kernel
theorem dX1_isBetter_44 : decode cX1_isBetter 44 = .ok (.lload_n 2, 1) := by decide +kernel
theorem dX1_isBetter_45 : decode cX1_isBetter 45 = .ok (.lcmp, 1) := by decide +kernel
theorem dX1_isBetter_46 : decode cX1_isBetter 46 = .ok (.ifCond .ge 7, 3) := by decide +kernel
theorem dX1_isBetter_49 : decode cX1_isBetter 49 = .ok (.iconst 1, 1) := by decide +kernel
theorem dX1_isBetter_50 : decode cX1_isBetter 50 = .ok (.goto 4, 3) := by decide +kernel
theorem dX1_isBetter_53 : decode cX1_isBetter 53 = .ok (.iconst 0, 1) := by decide +kernel
theorem dX1_isBetter_54 : decode cX1_isBetter 54 = .ok (.ireturn, 1) := by decide +kernel
theorem dX1_gainByStaying_0 : decode cX1_gainByStaying 0 = .ok (.aload_n 0, 1) := by decide +kernel
theorem dX1_gainByStaying_1 : decode cX1_gainByStaying 1 = .ok (.iload_n 2, 1) := by decide +kernel
theorem dX1_gainByStaying_2 : decode cX1_gainByStaying 2 = .ok (.iconst 1, 1) := by decide +kernel
theorem dX1_gainByStaying_3 : decode cX1_gainByStaying 3 = .ok (.isub, 1) := by decide +kernel
theorem dX1_gainByStaying_4 : decode cX1_gainByStaying 4 = .ok (.iload_n 3, 1) := by decide +kernel
theorem dX1_gainByStaying_5 : decode cX1_gainByStaying 5 = .ok (.invokevirtual 42, 3) := by decide +kernel
theorem dX1_gainByStaying_8 : decode cX1_gainByStaying 8 = .ok (.lstore 4, 2) := by decide +kernel
theorem dX1_gainByStaying_10 : decode cX1_gainByStaying 10 = .ok (.lload 4, 2) := by decide +kernel
theorem dX1_gainByStaying_12 : decode cX1_gainByStaying 12 = .ok (.lconst 0, 1) := by decide +kernel
theorem dX1_gainByStaying_13 : decode cX1_gainByStaying 13 = .ok (.lcmp, 1) := by decide +kernel
theorem dX1_gainByStaying_14 : decode cX1_gainByStaying 14 = .ok (.ifCond .ge 9, 3) := by decide +kernel
theorem dX1_gainByStaying_17 : decode cX1_gainByStaying 17 = .ok (.ldc2_w 15, 3) := by decide +kernel
theorem dX1_gainByStaying_20 : decode cX1_gainByStaying 20 = .ok (.goto 12, 3) := by decide +kernel
theorem dX1_gainByStaying_23 : decode cX1_gainByStaying 23 = .ok (.lload 4, 2) := by decide +kernel
theorem dX1_gainByStaying_25 : decode cX1_gainByStaying 25 = .ok (.aload_n 1, 1) := by decide +kernel
theorem dX1_gainByStaying_26 : decode cX1_gainByStaying 26 = .ok (.getfield 46, 3) := by decide +kernel
theorem dX1_gainByStaying_29 : decode cX1_gainByStaying 29 = .ok (.iload_n 3, 1) := by decide +kernel
theorem dX1_gainByStaying_30 : decode cX1_gainByStaying 30 = .ok (.laload, 1) := by decide +kernel
theorem dX1_gainByStaying_31 : decode cX1_gainByStaying 31 = .ok (.ladd, 1) := by decide +kernel
theorem dX1_gainByStaying_32 : decode cX1_gainByStaying 32 = .ok (.lreturn, 1) := by decide +kernel
theorem dX1_gainByStair_0 : decode cX1_gainByStair 0 = .ok (.aload_n 1, 1) := by decide +kernel
theorem dX1_gainByStair_1 : decode cX1_gainByStair 1 = .ok (.iload 4, 2) := by decide +kernel
theorem dX1_gainByStair_3 : decode cX1_gainByStair 3 = .ok (.iload_n 3, 1) := by decide +kernel
theorem dX1_gainByStair_4 : decode cX1_gainByStair 4 = .ok (.invokevirtual 49, 3) := by decide +kernel
theorem dX1_gainByStair_7 : decode cX1_gainByStair 7 = .ok (.istore 5, 2) := by decide +kernel
theorem dX1_gainByStair_9 : decode cX1_gainByStair 9 = .ok (.aload_n 1, 1) := by decide +kernel
theorem dX1_gainByStair_10 : decode cX1_gainByStair 10 = .ok (.getfield 53, 3) := by decide +kernel
theorem dX1_gainByStair_13 : decode cX1_gainByStair 13 = .ok (.iload 4, 2) := by decide +kernel
theorem dX1_gainByStair_15 : decode cX1_gainByStair 15 = .ok (.iaload, 1) := by decide +kernel
theorem dX1_gainByStair_16 : decode cX1_gainByStair 16 = .ok (.istore 6, 2) := by decide +kernel
theorem dX1_gainByStair_18 : decode cX1_gainByStair 18 = .ok (.iload 5, 2) := by decide +kernel
theorem dX1_gainByStair_20 : decode cX1_gainByStair 20 = .ok (.ifCond .ge 9, 3) := by decide +kernel
theorem dX1_gainByStair_23 : decode cX1_gainByStair 23 = .ok (.ldc2_w 15, 3) := by decide +kernel
theorem dX1_gainByStair_26 : decode cX1_gainByStair 26 = .ok (.goto 13, 3) := by decide +kernel
theorem dX1_gainByStair_29 : decode cX1_gainByStair 29 = .ok (.aload_n 0, 1) := by decide +kernel
theorem dX1_gainByStair_30 : decode cX1_gainByStair 30 = .ok (.iload_n 2, 1) := by decide +kernel
theorem dX1_gainByStair_31 : decode cX1_gainByStair 31 = .ok (.iload 6, 2) := by decide +kernel
theorem dX1_gainByStair_33 : decode cX1_gainByStair 33 = .ok (.isub, 1) := by decide +kernel
theorem dX1_gainByStair_34 : decode cX1_gainByStair 34 = .ok (.iload 5, 2) := by decide +kernel
theorem dX1_gainByStair_36 : decode cX1_gainByStair 36 = .ok (.invokevirtual 42, 3) := by decide +kernel
theorem dX1_gainByStair_39 : decode cX1_gainByStair 39 = .ok (.lstore 7, 2) := by decide +kernel
theorem dX1_gainByStair_41 : decode cX1_gainByStair 41 = .ok (.lload 7, 2) := by decide +kernel
theorem dX1_gainByStair_43 : decode cX1_gainByStair 43 = .ok (.lconst 0, 1) := by decide +kernel
theorem dX1_gainByStair_44 : decode cX1_gainByStair 44 = .ok (.lcmp, 1) := by decide +kernel
theorem dX1_gainByStair_45 : decode cX1_gainByStair 45 = .ok (.ifCond .ge 9, 3) := by decide +kernel
theorem dX1_gainByStair_48 : decode cX1_gainByStair 48 = .ok (.ldc2_w 15, 3) := by decide +kernel
theorem dX1_gainByStair_51 : decode cX1_gainByStair 51 = .ok (.goto 17, 3) := by decide +kernel
theorem dX1_gainByStair_54 : decode cX1_gainByStair 54 = .ok (.lload 7, 2) := by decide +kernel
theorem dX1_gainByStair_56 : decode cX1_gainByStair 56 = .ok (.iload 6, 2) := by decide +kernel
theorem dX1_gainByStair_58 : decode cX1_gainByStair 58 = .ok (.i2l, 1) := by decide +kernel
theorem dX1_gainByStair_59 : decode cX1_gainByStair 59 = .ok (.aload_n 1, 1) := by decide +kernel
theorem dX1_gainByStair_60 : decode cX1_gainByStair 60 = .ok (.getfield 57, 3) := by decide +kernel
theorem dX1_gainByStair_63 : decode cX1_gainByStair 63 = .ok (.iload 4, 2) := by decide +kernel
theorem dX1_gainByStair_65 : decode cX1_gainByStair 65 = .ok (.laload, 1) := by decide +kernel
theorem dX1_gainByStair_66 : decode cX1_gainByStair 66 = .ok (.lmul, 1) := by decide +kernel
theorem dX1_gainByStair_67 : decode cX1_gainByStair 67 = .ok (.ladd, 1) := by decide +kernel
theorem dX1_gainByStair_68 : decode cX1_gainByStair 68 = .ok (.lreturn, 1) := by decide +kernel
theorem dX1_gainOf_0 : decode cX1_gainOf 0 = .ok (.iload_n 1, 1) := by decide +kernel
theorem dX1_gainOf_1 : decode cX1_gainOf 1 = .ok (.ifCond .lt 9, 3) := by decide +kernel
theorem dX1_gainOf_4 : decode cX1_gainOf 4 = .ok (.iload_n 1, 1) := by decide +kernel
theorem dX1_gainOf_5 : decode cX1_gainOf 5 = .ok (.bipush 120, 2) := by decide +kernel
theorem dX1_gainOf_7 : decode cX1_gainOf 7 = .ok (.if_icmp .le 9, 3) := by decide +kernel
theorem dX1_gainOf_10 : decode cX1_gainOf 10 = .ok (.ldc2_w 15, 3) := by decide +kernel
theorem dX1_gainOf_13 : decode cX1_gainOf 13 = .ok (.goto 14, 3) := by decide +kernel
theorem dX1_gainOf_16 : decode cX1_gainOf 16 = .ok (.aload_n 0, 1) := by decide +kernel
theorem dX1_gainOf_17 : decode cX1_gainOf 17 = .ok (.getfield 9, 3) := by decide +kernel
theorem dX1_gainOf_20 : decode cX1_gainOf 20 = .ok (.iload_n 1, 1) := by decide +kernel
theorem dX1_gainOf_21 : decode cX1_gainOf 21 = .ok (.bipush 10, 2) := by decide +kernel
theorem dX1_gainOf_23 : decode cX1_gainOf 23 = .ok (.imul, 1) := by decide +kernel
theorem dX1_gainOf_24 : decode cX1_gainOf 24 = .ok (.iload_n 2, 1) := by decide +kernel
theorem dX1_gainOf_25 : decode cX1_gainOf 25 = .ok (.iadd, 1) := by decide +kernel
theorem dX1_gainOf_26 : decode cX1_gainOf 26 = .ok (.laload, 1) := by decide +kernel
theorem dX1_gainOf_27 : decode cX1_gainOf 27 = .ok (.lreturn, 1) := by decide +kernel
theorem dX1_firstStep_0 : decode cX1_firstStep 0 = .ok (.iload_n 2, 1) := by decide +kernel
theorem dX1_firstStep_1 : decode cX1_firstStep 1 = .ok (.ifCond .ne 6, 3) := by decide +kernel
theorem dX1_firstStep_4 : decode cX1_firstStep 4 = .ok (.bipush (-4), 2) := by decide +kernel
theorem dX1_firstStep_6 : decode cX1_firstStep 6 = .ok (.ireturn, 1) := by decide +kernel
theorem dX1_firstStep_7 : decode cX1_firstStep 7 = .ok (.aload_n 0, 1) := by decide +kernel
theorem dX1_firstStep_8 : decode cX1_firstStep 8 = .ok (.iload_n 2, 1) := by decide +kernel
theorem dX1_firstStep_9 : decode cX1_firstStep 9 = .ok (.iload_n 3, 1) := by decide +kernel
theorem dX1_firstStep_10 : decode cX1_firstStep 10 = .ok (.invokevirtual 42, 3) := by decide +kernel
theorem dX1_firstStep_13 : decode cX1_firstStep 13 = .ok (.lstore 4, 2) := by decide +kernel
theorem dX1_firstStep_15 : decode cX1_firstStep 15 = .ok (.aload_n 0, 1) := by decide +kernel
theorem dX1_firstStep_16 : decode cX1_firstStep 16 = .ok (.aload_n 1, 1) := by decide +kernel
theorem dX1_firstStep_17 : decode cX1_firstStep 17 = .ok (.iload_n 2, 1) := by decide +kernel
theorem dX1_firstStep_18 : decode cX1_firstStep 18 = .ok (.iload_n 3, 1) := by decide +kernel
theorem dX1_firstStep_19 : decode cX1_firstStep 19 = .ok (.invokevirtual 27, 3) := by decide +kernel
theorem dX1_firstStep_22 : decode cX1_firstStep 22 = .ok (.lload 4, 2) := by decide +kernel
theorem dX1_firstStep_24 : decode cX1_firstStep 24 = .ok (.lcmp, 1) := by decide +kernel
theorem dX1_firstStep_25 : decode cX1_firstStep 25 = .ok (.ifCond .ne 6, 3) := by decide +kernel
theorem dX1_firstStep_28 : decode cX1_firstStep 28 = .ok (.bipush (-3), 2) := by decide +kernel
theorem dX1_firstStep_30 : decode cX1_firstStep 30 = .ok (.ireturn, 1) := by decide +kernel
theorem dX1_firstStep_31 : decode cX1_firstStep 31 = .ok (.iconst 0, 1) := by decide +kernel
theorem dX1_firstStep_32 : decode cX1_firstStep 32 = .ok (.istore 6, 2) := by decide +kernel
theorem dX1_firstStep_34 : decode cX1_firstStep 34 = .ok (.iload 6, 2) := by decide +kernel
theorem dX1_firstStep_36 : decode cX1_firstStep 36 = .ok (.aload_n 1, 1) := by decide +kernel
theorem dX1_firstStep_37 : decode cX1_firstStep 37 = .ok (.getfield 31, 3) := by decide +kernel
theorem dX1_firstStep_40 : decode cX1_firstStep 40 = .ok (.if_icmp .ge 27, 3) := by decide +kernel
theorem dX1_firstStep_43 : decode cX1_firstStep 43 = .ok (.aload_n 0, 1) := by decide +kernel
theorem dX1_firstStep_44 : decode cX1_firstStep 44 = .ok (.aload_n 1, 1) := by decide +kernel
theorem dX1_firstStep_45 : decode cX1_firstStep 45 = .ok (.iload_n 2, 1) := by decide +kernel
theorem dX1_firstStep_46 : decode cX1_firstStep 46 = .ok (.iload_n 3, 1) := by decide +kernel
theorem dX1_firstStep_47 : decode cX1_firstStep 47 = .ok (.iload 6, 2) := by decide +kernel
theorem dX1_firstStep_49 : decode cX1_firstStep 49 = .ok (.invokevirtual 34, 3) := by decide +kernel
theorem dX1_firstStep_52 : decode cX1_firstStep 52 = .ok (.lload 4, 2) := by decide +kernel
theorem dX1_firstStep_54 : decode cX1_firstStep 54 = .ok (.lcmp, 1) := by decide +kernel
theorem dX1_firstStep_55 : decode cX1_firstStep 55 = .ok (.ifCond .ne 6, 3) := by decide +kernel
theorem dX1_firstStep_58 : decode cX1_firstStep 58 = .ok (.iload 6, 2) := by decide +kernel
theorem dX1_firstStep_60 : decode cX1_firstStep 60 = .ok (.ireturn, 1) := by decide +kernel
theorem dX1_firstStep_61 : decode cX1_firstStep 61 = .ok (.iinc 6 1, 3) := by decide +kernel
theorem dX1_firstStep_64 : decode cX1_firstStep 64 = .ok (.goto (-30), 3) := by decide +kernel
theorem dX1_firstStep_67 : decode cX1_firstStep 67 = .ok (.bipush (-2), 2) := by decide +kernel
theorem dX1_firstStep_69 : decode cX1_firstStep 69 = .ok (.ireturn, 1) := by decide +kernel
theorem dX1_bestFloor_0 : decode cX1_bestFloor 0 = .ok (.iconst 0, 1) := by decide +kernel
theorem dX1_bestFloor_1 : decode cX1_bestFloor 1 = .ok (.istore 4, 2) := by decide +kernel
theorem dX1_bestFloor_3 : decode cX1_bestFloor 3 = .ok (.iconst 1, 1) := by decide +kernel
theorem dX1_bestFloor_4 : decode cX1_bestFloor 4 = .ok (.istore 5, 2) := by decide +kernel
theorem dX1_bestFloor_6 : decode cX1_bestFloor 6 = .ok (.iload 5, 2) := by decide +kernel
theorem dX1_bestFloor_8 : decode cX1_bestFloor 8 = .ok (.aload_n 1, 1) := by decide +kernel
theorem dX1_bestFloor_9 : decode cX1_bestFloor 9 = .ok (.getfield 17, 3) := by decide +kernel
theorem dX1_bestFloor_12 : decode cX1_bestFloor 12 = .ok (.if_icmp .ge 39, 3) := by decide +kernel
theorem dX1_bestFloor_15 : decode cX1_bestFloor 15 = .ok (.aload_n 0, 1) := by decide +kernel
theorem dX1_bestFloor_16 : decode cX1_bestFloor 16 = .ok (.iload_n 2, 1) := by decide +kernel
theorem dX1_bestFloor_17 : decode cX1_bestFloor 17 = .ok (.iload 5, 2) := by decide +kernel
theorem dX1_bestFloor_19 : decode cX1_bestFloor 19 = .ok (.invokevirtual 42, 3) := by decide +kernel
theorem dX1_bestFloor_22 : decode cX1_bestFloor 22 = .ok (.aload_n 0, 1) := by decide +kernel
theorem dX1_bestFloor_23 : decode cX1_bestFloor 23 = .ok (.iload_n 2, 1) := by decide +kernel
theorem dX1_bestFloor_24 : decode cX1_bestFloor 24 = .ok (.iload 4, 2) := by decide +kernel
theorem dX1_bestFloor_26 : decode cX1_bestFloor 26 = .ok (.invokevirtual 42, 3) := by decide +kernel
theorem dX1_bestFloor_29 : decode cX1_bestFloor 29 = .ok (.iload_n 3, 1) := by decide +kernel
theorem dX1_bestFloor_30 : decode cX1_bestFloor 30 = .ok (.invokestatic 38, 3) := by decide +kernel
theorem dX1_bestFloor_33 : decode cX1_bestFloor 33 = .ok (.ifCond .eq 8, 3) := by decide +kernel
theorem dX1_bestFloor_36 : decode cX1_bestFloor 36 = .ok (.iload 5, 2) := by decide +kernel
theorem dX1_bestFloor_38 : decode cX1_bestFloor 38 = .ok (.goto 5, 3) := by decide +kernel
theorem dX1_bestFloor_41 : decode cX1_bestFloor 41 = .ok (.iload 4, 2) := by decide +kernel
theorem dX1_bestFloor_43 : decode cX1_bestFloor 43 = .ok (.istore 4, 2) := by decide +kernel
theorem dX1_bestFloor_45 : decode cX1_bestFloor 45 = .ok (.iinc 5 1, 3) := by decide +kernel
theorem dX1_bestFloor_48 : decode cX1_bestFloor 48 = .ok (.goto (-42), 3) := by decide +kernel
theorem dX1_bestFloor_51 : decode cX1_bestFloor 51 = .ok (.iload 4, 2) := by decide +kernel
theorem dX1_bestFloor_53 : decode cX1_bestFloor 53 = .ok (.ireturn, 1) := by decide +kernel
theorem dX2_init_0 : decode cX2_init 0 = .ok (.aload_n 0, 1) := by decide +kernel
theorem dX2_init_1 : decode cX2_init 1 = .ok (.invokespecial 3, 3) := by decide +kernel
theorem dX2_init_4 : decode cX2_init 4 = .ok (.aload_n 0, 1) := by decide +kernel
theorem dX2_init_5 : decode cX2_init 5 = .ok (.bipush 12, 2) := by decide +kernel
theorem dX2_init_7 : decode cX2_init 7 = .ok (.newarray .int, 2) := by decide +kernel
theorem dX2_init_9 : decode cX2_init 9 = .ok (.putfield 9, 3) := by decide +kernel
theorem dX2_init_12 : decode cX2_init 12 = .ok (.aload_n 0, 1) := by decide +kernel
theorem dX2_init_13 : decode cX2_init 13 = .ok (.bipush 12, 2) := by decide +kernel
theorem dX2_init_15 : decode cX2_init 15 = .ok (.newarray .int, 2) := by decide +kernel
theorem dX2_init_17 : decode cX2_init 17 = .ok (.putfield 15, 3) := by decide +kernel
theorem dX2_init_20 : decode cX2_init 20 = .ok (.aload_n 0, 1) := by decide +kernel
theorem dX2_init_21 : decode cX2_init 21 = .ok (.bipush 12, 2) := by decide +kernel
theorem dX2_init_23 : decode cX2_init 23 = .ok (.newarray .int, 2) := by decide +kernel
theorem dX2_init_25 : decode cX2_init 25 = .ok (.putfield 18, 3) := by decide +kernel
theorem dX2_init_28 : decode cX2_init 28 = .ok (.aload_n 0, 1) := by decide +kernel
theorem dX2_init_29 : decode cX2_init 29 = .ok (.bipush 12, 2) := by decide +kernel
theorem dX2_init_31 : decode cX2_init 31 = .ok (.newarray .int, 2) := by decide +kernel
theorem dX2_init_33 : decode cX2_init 33 = .ok (.putfield 21, 3) := by decide +kernel
theorem dX2_init_36 : decode cX2_init 36 = .ok (.aload_n 0, 1) := by decide +kernel
theorem dX2_init_37 : decode cX2_init 37 = .ok (.iconst 0, 1) := by decide +kernel
theorem dX2_init_38 : decode cX2_init 38 = .ok (.putfield 24, 3) := by decide +kernel
theorem dX2_init_41 : decode cX2_init 41 = .ok (.return_, 1) := by decide +kernel
theorem dX2_copyFrom_0 : decode cX2_copyFrom 0 = .ok (.aload_n 1, 1) := by decide +kernel
theorem dX2_copyFrom_1 : decode cX2_copyFrom 1 = .ok (.getfield 9, 3) := by decide +kernel
theorem dX2_copyFrom_4 : decode cX2_copyFrom 4 = .ok (.iconst 0, 1) := by decide +kernel
theorem dX2_copyFrom_5 : decode cX2_copyFrom 5 = .ok (.aload_n 0, 1) := by decide +kernel
theorem dX2_copyFrom_6 : decode cX2_copyFrom 6 = .ok (.getfield 9, 3) := by decide +kernel
theorem dX2_copyFrom_9 : decode cX2_copyFrom 9 = .ok (.iconst 0, 1) := by decide +kernel
theorem dX2_copyFrom_10 : decode cX2_copyFrom 10 = .ok (.bipush 12, 2) := by decide +kernel
theorem dX2_copyFrom_12 : decode cX2_copyFrom 12 = .ok (.invokestatic 28, 3) := by decide +kernel
theorem dX2_copyFrom_15 : decode cX2_copyFrom 15 = .ok (.aload_n 1, 1) := by decide +kernel
theorem dX2_copyFrom_16 : decode cX2_copyFrom 16 = .ok (.getfield 15, 3) := by decide +kernel
theorem dX2_copyFrom_19 : decode cX2_copyFrom 19 = .ok (.iconst 0, 1) := by decide +kernel
theorem dX2_copyFrom_20 : decode cX2_copyFrom 20 = .ok (.aload_n 0, 1) := by decide +kernel
theorem dX2_copyFrom_21 : decode cX2_copyFrom 21 = .ok (.getfield 15, 3) := by decide +kernel
theorem dX2_copyFrom_24 : decode cX2_copyFrom 24 = .ok (.iconst 0, 1) := by decide +kernel
theorem dX2_copyFrom_25 : decode cX2_copyFrom 25 = .ok (.bipush 12, 2) := by decide +kernel
theorem dX2_copyFrom_27 : decode cX2_copyFrom 27 = .ok (.invokestatic 28, 3) := by decide +kernel
theorem dX2_copyFrom_30 : decode cX2_copyFrom 30 = .ok (.aload_n 1, 1) := by decide +kernel
theorem dX2_copyFrom_31 : decode cX2_copyFrom 31 = .ok (.getfield 18, 3) := by decide +kernel
theorem dX2_copyFrom_34 : decode cX2_copyFrom 34 = .ok (.iconst 0, 1) := by decide +kernel
theorem dX2_copyFrom_35 : decode cX2_copyFrom 35 = .ok (.aload_n 0, 1) := by decide +kernel
theorem dX2_copyFrom_36 : decode cX2_copyFrom 36 = .ok (.getfield 18, 3) := by decide +kernel
theorem dX2_copyFrom_39 : decode cX2_copyFrom 39 = .ok (.iconst 0, 1) := by decide +kernel
theorem dX2_copyFrom_40 : decode cX2_copyFrom 40 = .ok (.bipush 12, 2) := by decide +kernel
theorem dX2_copyFrom_42 : decode cX2_copyFrom 42 = .ok (.invokestatic 28, 3) := by decide +kernel
theorem dX2_copyFrom_45 : decode cX2_copyFrom 45 = .ok (.aload_n 1, 1) := by decide +kernel
theorem dX2_copyFrom_46 : decode cX2_copyFrom 46 = .ok (.getfield 21, 3) := by decide +kernel
theorem dX2_copyFrom_49 : decode cX2_copyFrom 49 = .ok (.iconst 0, 1) := by decide +kernel
theorem dX2_copyFrom_50 : decode cX2_copyFrom 50 = .ok (.aload_n 0, 1) := by decide +kernel
theorem dX2_copyFrom_51 : decode cX2_copyFrom 51 = .ok (.getfield 21, 3) := by decide +kernel
theorem dX2_copyFrom_54 : decode cX2_copyFrom 54 = .ok (.iconst 0, 1) := by decide +kernel
theorem dX2_copyFrom_55 : decode cX2_copyFrom 55 = .ok (.bipush 12, 2) := by decide +kernel
theorem dX2_copyFrom_57 : decode cX2_copyFrom 57 = .ok (.invokestatic 28, 3) := by decide +kernel
theorem dX2_copyFrom_60 : decode cX2_copyFrom 60 = .ok (.aload_n 0, 1) := by decide +kernel
theorem dX2_copyFrom_61 : decode cX2_copyFrom 61 = .ok (.aload_n 1, 1) := by decide +kernel
theorem dX2_copyFrom_62 : decode cX2_copyFrom 62 = .ok (.getfield 24, 3) := by decide +kernel
theorem dX2_copyFrom_65 : decode cX2_copyFrom 65 = .ok (.putfield 24, 3) := by decide +kernel
theorem dX2_copyFrom_68 : decode cX2_copyFrom 68 = .ok (.return_, 1) := by decide +kernel
theorem dX2_send_0 : decode cX2_send 0 = .ok (.aload_n 0, 1) := by decide +kernel
theorem dX2_send_1 : decode cX2_send 1 = .ok (.getfield 24, 3) := by decide +kernel
theorem dX2_send_4 : decode cX2_send 4 = .ok (.bipush 12, 2) := by decide +kernel
theorem dX2_send_6 : decode cX2_send 6 = .ok (.if_icmp .ge 54, 3) := by decide +kernel
theorem dX2_send_9 : decode cX2_send 9 = .ok (.aload_n 0, 1) := by decide +kernel
theorem dX2_send_10 : decode cX2_send 10 = .ok (.getfield 9, 3) := by decide +kernel
theorem dX2_send_13 : decode cX2_send 13 = .ok (.aload_n 0, 1) := by decide +kernel
theorem dX2_send_14 : decode cX2_send 14 = .ok (.getfield 24, 3) := by decide +kernel
theorem dX2_send_17 : decode cX2_send 17 = .ok (.iload_n 1, 1) := by decide +kernel
theorem dX2_send_18 : decode cX2_send 18 = .ok (.iastore, 1) := by decide +kernel
theorem dX2_send_19 : decode cX2_send 19 = .ok (.aload_n 0, 1) := by decide +kernel
theorem dX2_send_20 : decode cX2_send 20 = .ok (.getfield 15, 3) := by decide +kernel
theorem dX2_send_23 : decode cX2_send 23 = .ok (.aload_n 0, 1) := by decide +kernel
theorem dX2_send_24 : decode cX2_send 24 = .ok (.getfield 24, 3) := by decide +kernel
theorem dX2_send_27 : decode cX2_send 27 = .ok (.iload_n 2, 1) := by decide +kernel
theorem dX2_send_28 : decode cX2_send 28 = .ok (.iastore, 1) := by decide +kernel
theorem dX2_send_29 : decode cX2_send 29 = .ok (.aload_n 0, 1) := by decide +kernel
theorem dX2_send_30 : decode cX2_send 30 = .ok (.getfield 18, 3) := by decide +kernel
theorem dX2_send_33 : decode cX2_send 33 = .ok (.aload_n 0, 1) := by decide +kernel
theorem dX2_send_34 : decode cX2_send 34 = .ok (.getfield 24, 3) := by decide +kernel
theorem dX2_send_37 : decode cX2_send 37 = .ok (.iload_n 3, 1) := by decide +kernel
theorem dX2_send_38 : decode cX2_send 38 = .ok (.iastore, 1) := by decide +kernel
theorem dX2_send_39 : decode cX2_send 39 = .ok (.aload_n 0, 1) := by decide +kernel
theorem dX2_send_40 : decode cX2_send 40 = .ok (.getfield 21, 3) := by decide +kernel
theorem dX2_send_43 : decode cX2_send 43 = .ok (.aload_n 0, 1) := by decide +kernel
theorem dX2_send_44 : decode cX2_send 44 = .ok (.getfield 24, 3) := by decide +kernel
theorem dX2_send_47 : decode cX2_send 47 = .ok (.iload 4, 2) := by decide +kernel
theorem dX2_send_49 : decode cX2_send 49 = .ok (.iastore, 1) := by decide +kernel
theorem dX2_send_50 : decode cX2_send 50 = .ok (.aload_n 0, 1) := by decide +kernel
theorem dX2_send_51 : decode cX2_send 51 = .ok (.dup, 1) := by decide +kernel
theorem dX2_send_52 : decode cX2_send 52 = .ok (.getfield 24, 3) := by decide +kernel
theorem dX2_send_55 : decode cX2_send 55 = .ok (.iconst 1, 1) := by decide +kernel
theorem dX2_send_56 : decode cX2_send 56 = .ok (.iadd, 1) := by decide +kernel
theorem dX2_send_57 : decode cX2_send 57 = .ok (.putfield 24, 3) := by decide +kernel
theorem dX2_send_60 : decode cX2_send 60 = .ok (.return_, 1) := by decide +kernel
theorem dX2_sentByClock_0 : decode cX2_sentByClock 0 = .ok (.aload_n 1, 1) := by decide +kernel
theorem dX2_sentByClock_1 : decode cX2_sentByClock 1 = .ok (.aload_n 0, 1) := by decide +kernel
theorem dX2_sentByClock_2 : decode cX2_sentByClock 2 = .ok (.getfield 9, 3) := by decide +kernel
theorem dX2_sentByClock_5 : decode cX2_sentByClock 5 = .ok (.iload_n 2, 1) := by decide +kernel
theorem dX2_sentByClock_6 : decode cX2_sentByClock 6 = .ok (.iaload, 1) := by decide +kernel
theorem dX2_sentByClock_7 : decode cX2_sentByClock 7 = .ok (.aload_n 0, 1) := by decide +kernel
theorem dX2_sentByClock_8 : decode cX2_sentByClock 8 = .ok (.getfield 18, 3) := by decide +kernel
theorem dX2_sentByClock_11 : decode cX2_sentByClock 11 = .ok (.iload_n 2, 1) := by decide +kernel
theorem dX2_sentByClock_12 : decode cX2_sentByClock 12 = .ok (.iaload, 1) := by decide +kernel
theorem dX2_sentByClock_13 : decode cX2_sentByClock 13 = .ok (.invokevirtual 34, 3) := by decide +kernel
theorem dX2_sentByClock_16 : decode cX2_sentByClock 16 = .ok (.lreturn, 1) := by decide +kernel
theorem dX2_isEarly_0 : decode cX2_isEarly 0 = .ok (.aload_n 1, 1) := by decide +kernel
theorem dX2_isEarly_1 : decode cX2_isEarly 1 = .ok (.aload_n 0, 1) := by decide +kernel
theorem dX2_isEarly_2 : decode cX2_isEarly 2 = .ok (.getfield 15, 3) := by decide +kernel
theorem dX2_isEarly_5 : decode cX2_isEarly 5 = .ok (.iload_n 2, 1) := by decide +kernel
theorem dX2_isEarly_6 : decode cX2_isEarly 6 = .ok (.iaload, 1) := by decide +kernel
theorem dX2_isEarly_7 : decode cX2_isEarly 7 = .ok (.aload_n 0, 1) := by decide +kernel
theorem dX2_isEarly_8 : decode cX2_isEarly 8 = .ok (.getfield 21, 3) := by decide +kernel
theorem dX2_isEarly_11 : decode cX2_isEarly 11 = .ok (.iload_n 2, 1) := by decide +kernel
theorem dX2_isEarly_12 : decode cX2_isEarly 12 = .ok (.iaload, 1) := by decide +kernel
theorem dX2_isEarly_13 : decode cX2_isEarly 13 = .ok (.invokevirtual 34, 3) := by decide +kernel
theorem dX2_isEarly_16 : decode cX2_isEarly 16 = .ok (.aload_n 0, 1) := by decide +kernel
theorem dX2_isEarly_17 : decode cX2_isEarly 17 = .ok (.aload_n 1, 1) := by decide +kernel
theorem dX2_isEarly_18 : decode cX2_isEarly 18 = .ok (.iload_n 2, 1) := by decide +kernel
theorem dX2_isEarly_19 : decode cX2_isEarly 19 = .ok (.invokevirtual 40, 3) := by decide +kernel
theorem dX2_isEarly_22 : decode cX2_isEarly 22 = .ok (.lcmp, 1) := by decide +kernel
theorem dX2_isEarly_23 : decode cX2_isEarly 23 = .ok (.ifCond .ge 7, 3) := by decide +kernel
theorem dX2_isEarly_26 : decode cX2_isEarly 26 = .ok (.iconst 1, 1) := by decide +kernel
theorem dX2_isEarly_27 : decode cX2_isEarly 27 = .ok (.goto 4, 3) := by decide +kernel
theorem dX2_isEarly_30 : decode cX2_isEarly 30 = .ok (.iconst 0, 1) := by decide +kernel
theorem dX2_isEarly_31 : decode cX2_isEarly 31 = .ok (.ireturn, 1) := by decide +kernel
theorem dX2_earlyOnes_0 : decode cX2_earlyOnes 0 = .ok (.iconst 0, 1) := by decide +kernel
theorem dX2_earlyOnes_1 : decode cX2_earlyOnes 1 = .ok (.istore_n 2, 1) := by decide +kernel
theorem dX2_earlyOnes_2 : decode cX2_earlyOnes 2 = .ok (.iconst 0, 1) := by decide +kernel
theorem dX2_earlyOnes_3 : decode cX2_earlyOnes 3 = .ok (.istore_n 3, 1) := by decide +kernel
theorem dX2_earlyOnes_4 : decode cX2_earlyOnes 4 = .ok (.iload_n 3, 1) := by decide +kernel
theorem dX2_earlyOnes_5 : decode cX2_earlyOnes 5 = .ok (.aload_n 0, 1) := by decide +kernel
theorem dX2_earlyOnes_6 : decode cX2_earlyOnes 6 = .ok (.getfield 24, 3) := by decide +kernel
theorem dX2_earlyOnes_9 : decode cX2_earlyOnes 9 = .ok (.if_icmp .ge 26, 3) := by decide +kernel
theorem dX2_earlyOnes_12 : decode cX2_earlyOnes 12 = .ok (.iload_n 2, 1) := by decide +kernel
theorem dX2_earlyOnes_13 : decode cX2_earlyOnes 13 = .ok (.aload_n 0, 1) := by decide +kernel
theorem dX2_earlyOnes_14 : decode cX2_earlyOnes 14 = .ok (.aload_n 1, 1) := by decide +kernel
theorem dX2_earlyOnes_15 : decode cX2_earlyOnes 15 = .ok (.iload_n 3, 1) := by decide +kernel
theorem dX2_earlyOnes_16 : decode cX2_earlyOnes 16 = .ok (.invokevirtual 44, 3) := by decide +kernel
theorem dX2_earlyOnes_19 : decode cX2_earlyOnes 19 = .ok (.ifCond .eq 7, 3) := by decide +kernel
theorem dX2_earlyOnes_22 : decode cX2_earlyOnes 22 = .ok (.iconst 1, 1) := by decide +kernel
theorem dX2_earlyOnes_23 : decode cX2_earlyOnes 23 = .ok (.goto 4, 3) := by decide +kernel
theorem dX2_earlyOnes_26 : decode cX2_earlyOnes 26 = .ok (.iconst 0, 1) := by decide +kernel
theorem dX2_earlyOnes_27 : decode cX2_earlyOnes 27 = .ok (.iadd, 1) := by decide +kernel
theorem dX2_earlyOnes_28 : decode cX2_earlyOnes 28 = .ok (.istore_n 2, 1) := by decide +kernel
theorem dX2_earlyOnes_29 : decode cX2_earlyOnes 29 = .ok (.iinc 3 1, 3) := by decide +kernel
theorem dX2_earlyOnes_32 : decode cX2_earlyOnes 32 = .ok (.goto (-28), 3) := by decide +kernel
theorem dX2_earlyOnes_35 : decode cX2_earlyOnes 35 = .ok (.iload_n 2, 1) := by decide +kernel
theorem dX2_earlyOnes_36 : decode cX2_earlyOnes 36 = .ok (.ireturn, 1) := by decide +kernel
theorem dX2_isOvertaken_0 : decode cX2_isOvertaken 0 = .ok (.aload_n 0, 1) := by decide +kernel
theorem dX2_isOvertaken_1 : decode cX2_isOvertaken 1 = .ok (.aload_n 1, 1) := by decide +kernel
theorem dX2_isOvertaken_2 : decode cX2_isOvertaken 2 = .ok (.iload_n 2, 1) := by decide +kernel
theorem dX2_isOvertaken_3 : decode cX2_isOvertaken 3 = .ok (.invokevirtual 40, 3) := by decide +kernel
theorem dX2_isOvertaken_6 : decode cX2_isOvertaken 6 = .ok (.aload_n 0, 1) := by decide +kernel
theorem dX2_isOvertaken_7 : decode cX2_isOvertaken 7 = .ok (.aload_n 1, 1) := by decide +kernel
theorem dX2_isOvertaken_8 : decode cX2_isOvertaken 8 = .ok (.iload_n 3, 1) := by decide +kernel
theorem dX2_isOvertaken_9 : decode cX2_isOvertaken 9 = .ok (.invokevirtual 40, 3) := by decide +kernel
theorem dX2_isOvertaken_12 : decode cX2_isOvertaken 12 = .ok (.lcmp, 1) := by decide +kernel
theorem dX2_isOvertaken_13 : decode cX2_isOvertaken 13 = .ok (.ifCond .ge 22, 3) := by decide +kernel
theorem dX2_isOvertaken_16 : decode cX2_isOvertaken 16 = .ok (.aload_n 0, 1) := by decide +kernel
theorem dX2_isOvertaken_17 : decode cX2_isOvertaken 17 = .ok (.getfield 21, 3) := by decide +kernel
theorem dX2_isOvertaken_20 : decode cX2_isOvertaken 20 = .ok (.iload_n 2, 1) := by decide +kernel
theorem dX2_isOvertaken_21 : decode cX2_isOvertaken 21 = .ok (.iaload, 1) := by decide +kernel
theorem dX2_isOvertaken_22 : decode cX2_isOvertaken 22 = .ok (.aload_n 0, 1) := by decide +kernel
theorem dX2_isOvertaken_23 : decode cX2_isOvertaken 23 = .ok (.getfield 21, 3) := by decide +kernel
theorem dX2_isOvertaken_26 : decode cX2_isOvertaken 26 = .ok (.iload_n 3, 1) := by decide +kernel
theorem dX2_isOvertaken_27 : decode cX2_isOvertaken 27 = .ok (.iaload, 1) := by decide +kernel
theorem dX2_isOvertaken_28 : decode cX2_isOvertaken 28 = .ok (.if_icmp .le 7, 3) := by decide +kernel
theorem dX2_isOvertaken_31 : decode cX2_isOvertaken 31 = .ok (.iconst 1, 1) := by decide +kernel
theorem dX2_isOvertaken_32 : decode cX2_isOvertaken 32 = .ok (.goto 4, 3) := by decide +kernel
theorem dX2_isOvertaken_35 : decode cX2_isOvertaken 35 = .ok (.iconst 0, 1) := by decide +kernel
theorem dX2_isOvertaken_36 : decode cX2_isOvertaken 36 = .ok (.ireturn, 1) := by decide +kernel
theorem dX2_comingBefore_0 : decode cX2_comingBefore 0 = .ok (.iconst 0, 1) := by decide +kernel
theorem dX2_comingBefore_1 : decode cX2_comingBefore 1 = .ok (.istore_n 2, 1) := by decide +kernel
theorem dX2_comingBefore_2 : decode cX2_comingBefore 2 = .ok (.iconst 0, 1) := by decide +kernel
theorem dX2_comingBefore_3 : decode cX2_comingBefore 3 = .ok (.istore_n 3, 1) := by decide +kernel
theorem dX2_comingBefore_4 : decode cX2_comingBefore 4 = .ok (.iload_n 3, 1) := by decide +kernel
theorem dX2_comingBefore_5 : decode cX2_comingBefore 5 = .ok (.aload_n 0, 1) := by decide +kernel
theorem dX2_comingBefore_6 : decode cX2_comingBefore 6 = .ok (.getfield 24, 3) := by decide +kernel
theorem dX2_comingBefore_9 : decode cX2_comingBefore 9 = .ok (.if_icmp .ge 64, 3) := by decide +kernel
theorem dX2_comingBefore_12 : decode cX2_comingBefore 12 = .ok (.aload_n 0, 1) := by decide +kernel
theorem dX2_comingBefore_13 : decode cX2_comingBefore 13 = .ok (.getfield 21, 3) := by decide +kernel
theorem dX2_comingBefore_16 : decode cX2_comingBefore 16 = .ok (.iload_n 3, 1) := by decide +kernel
theorem dX2_comingBefore_17 : decode cX2_comingBefore 17 = .ok (.iaload, 1) := by decide +kernel
theorem dX2_comingBefore_18 : decode cX2_comingBefore 18 = .ok (.aload_n 0, 1) := by decide +kernel
theorem dX2_comingBefore_19 : decode cX2_comingBefore 19 = .ok (.getfield 21, 3) := by decide +kernel
theorem dX2_comingBefore_22 : decode cX2_comingBefore 22 = .ok (.iload_n 1, 1) := by decide +kernel
theorem dX2_comingBefore_23 : decode cX2_comingBefore 23 = .ok (.iaload, 1) := by decide +kernel
theorem dX2_comingBefore_24 : decode cX2_comingBefore 24 = .ok (.if_icmp .lt 23, 3) := by decide +kernel
theorem dX2_comingBefore_27 : decode cX2_comingBefore 27 = .ok (.aload_n 0, 1) := by decide +kernel
theorem dX2_comingBefore_28 : decode cX2_comingBefore 28 = .ok (.getfield 21, 3) := by decide +kernel
theorem dX2_comingBefore_31 : decode cX2_comingBefore 31 = .ok (.iload_n 3, 1) := by decide +kernel
theorem dX2_comingBefore_32 : decode cX2_comingBefore 32 = .ok (.iaload, 1) := by decide +kernel
theorem dX2_comingBefore_33 : decode cX2_comingBefore 33 = .ok (.aload_n 0, 1) := by decide +kernel
theorem dX2_comingBefore_34 : decode cX2_comingBefore 34 = .ok (.getfield 21, 3) := by decide +kernel
theorem dX2_comingBefore_37 : decode cX2_comingBefore 37 = .ok (.iload_n 1, 1) := by decide +kernel
theorem dX2_comingBefore_38 : decode cX2_comingBefore 38 = .ok (.iaload, 1) := by decide +kernel
theorem dX2_comingBefore_39 : decode cX2_comingBefore 39 = .ok (.if_icmp .ne 12, 3) := by decide +kernel
theorem dX2_comingBefore_42 : decode cX2_comingBefore 42 = .ok (.iload_n 3, 1) := by decide +kernel
theorem dX2_comingBefore_43 : decode cX2_comingBefore 43 = .ok (.iload_n 1, 1) := by decide +kernel
theorem dX2_comingBefore_44 : decode cX2_comingBefore 44 = .ok (.if_icmp .ge 7, 3) := by decide +kernel
theorem dX2_comingBefore_47 : decode cX2_comingBefore 47 = .ok (.iconst 1, 1) := by decide +kernel
theorem dX2_comingBefore_48 : decode cX2_comingBefore 48 = .ok (.goto 4, 3) := by decide +kernel
theorem dX2_comingBefore_51 : decode cX2_comingBefore 51 = .ok (.iconst 0, 1) := by decide +kernel
theorem dX2_comingBefore_52 : decode cX2_comingBefore 52 = .ok (.istore 4, 2) := by decide +kernel
theorem dX2_comingBefore_54 : decode cX2_comingBefore 54 = .ok (.iload_n 2, 1) := by decide +kernel
theorem dX2_comingBefore_55 : decode cX2_comingBefore 55 = .ok (.iload 4, 2) := by decide +kernel
theorem dX2_comingBefore_57 : decode cX2_comingBefore 57 = .ok (.ifCond .eq 7, 3) := by decide +kernel
theorem dX2_comingBefore_60 : decode cX2_comingBefore 60 = .ok (.iconst 1, 1) := by decide +kernel
theorem dX2_comingBefore_61 : decode cX2_comingBefore 61 = .ok (.goto 4, 3) := by decide +kernel
theorem dX2_comingBefore_64 : decode cX2_comingBefore 64 = .ok (.iconst 0, 1) := by decide +kernel
theorem dX2_comingBefore_65 : decode cX2_comingBefore 65 = .ok (.iadd, 1) := by decide +kernel
theorem dX2_comingBefore_66 : decode cX2_comingBefore 66 = .ok (.istore_n 2, 1) := by decide +kernel
theorem dX2_comingBefore_67 : decode cX2_comingBefore 67 = .ok (.iinc 3 1, 3) := by decide +kernel
theorem dX2_comingBefore_70 : decode cX2_comingBefore 70 = .ok (.goto (-66), 3) := by decide +kernel
theorem dX2_comingBefore_73 : decode cX2_comingBefore 73 = .ok (.iload_n 2, 1) := by decide +kernel
theorem dX2_comingBefore_74 : decode cX2_comingBefore 74 = .ok (.ireturn, 1) := by decide +kernel
theorem dX3_init_0 : decode cX3_init 0 = .ok (.aload_n 0, 1) := by decide +kernel
theorem dX3_init_1 : decode cX3_init 1 = .ok (.invokespecial 3, 3) := by decide +kernel
theorem dX3_init_4 : decode cX3_init 4 = .ok (.aload_n 0, 1) := by decide +kernel
theorem dX3_init_5 : decode cX3_init 5 = .ok (.sipush 4000, 3) := by decide +kernel
theorem dX3_init_8 : decode cX3_init 8 = .ok (.newarray .long, 2) := by decide +kernel
theorem dX3_init_10 : decode cX3_init 10 = .ok (.putfield 9, 3) := by decide +kernel
theorem dX3_init_13 : decode cX3_init 13 = .ok (.aload_n 0, 1) := by decide +kernel
theorem dX3_init_14 : decode cX3_init 14 = .ok (.sipush 4000, 3) := by decide +kernel
theorem dX3_init_17 : decode cX3_init 17 = .ok (.newarray .int, 2) := by decide +kernel
theorem dX3_init_19 : decode cX3_init 19 = .ok (.putfield 15, 3) := by decide +kernel
theorem dX3_init_22 : decode cX3_init 22 = .ok (.aload_n 0, 1) := by decide +kernel
theorem dX3_init_23 : decode cX3_init 23 = .ok (.sipush 171, 3) := by decide +kernel
theorem dX3_init_26 : decode cX3_init 26 = .ok (.newarray .int, 2) := by decide +kernel
theorem dX3_init_28 : decode cX3_init 28 = .ok (.putfield 19, 3) := by decide +kernel
theorem dX3_init_31 : decode cX3_init 31 = .ok (.aload_n 0, 1) := by decide +kernel
theorem dX3_init_32 : decode cX3_init 32 = .ok (.bipush 13, 2) := by decide +kernel
theorem dX3_init_34 : decode cX3_init 34 = .ok (.newarray .int, 2) := by decide +kernel
theorem dX3_init_36 : decode cX3_init 36 = .ok (.putfield 22, 3) := by decide +kernel
theorem dX3_init_39 : decode cX3_init 39 = .ok (.aload_n 0, 1) := by decide +kernel
theorem dX3_init_40 : decode cX3_init 40 = .ok (.bipush 13, 2) := by decide +kernel
theorem dX3_init_42 : decode cX3_init 42 = .ok (.newarray .int, 2) := by decide +kernel
theorem dX3_init_44 : decode cX3_init 44 = .ok (.putfield 25, 3) := by decide +kernel
theorem dX3_init_47 : decode cX3_init 47 = .ok (.aload_n 0, 1) := by decide +kernel
theorem dX3_init_48 : decode cX3_init 48 = .ok (.bipush 13, 2) := by decide +kernel
theorem dX3_init_50 : decode cX3_init 50 = .ok (.newarray .long, 2) := by decide +kernel
theorem dX3_init_52 : decode cX3_init 52 = .ok (.putfield 28, 3) := by decide +kernel
theorem dX3_init_55 : decode cX3_init 55 = .ok (.aload_n 0, 1) := by decide +kernel
theorem dX3_init_56 : decode cX3_init 56 = .ok (.bipush 13, 2) := by decide +kernel
theorem dX3_init_58 : decode cX3_init 58 = .ok (.newarray .int, 2) := by decide +kernel
theorem dX3_init_60 : decode cX3_init 60 = .ok (.putfield 31, 3) := by decide +kernel
theorem dX3_init_63 : decode cX3_init 63 = .ok (.aload_n 0, 1) := by decide +kernel
theorem dX3_init_64 : decode cX3_init 64 = .ok (.iconst 0, 1) := by decide +kernel
theorem dX3_init_65 : decode cX3_init 65 = .ok (.putfield 34, 3) := by decide +kernel
theorem dX3_init_68 : decode cX3_init 68 = .ok (.aload_n 0, 1) := by decide +kernel
theorem dX3_init_69 : decode cX3_init 69 = .ok (.iconst 0, 1) := by decide +kernel
theorem dX3_init_70 : decode cX3_init 70 = .ok (.putfield 38, 3) := by decide +kernel
theorem dX3_init_73 : decode cX3_init 73 = .ok (.return_, 1) := by decide +kernel
theorem dX3_spread_0 : decode cX3_spread 0 = .ok (.aload_n 0, 1) := by decide +kernel
theorem dX3_spread_1 : decode cX3_spread 1 = .ok (.iconst 0, 1) := by decide +kernel
theorem dX3_spread_2 : decode cX3_spread 2 = .ok (.putfield 34, 3) := by decide +kernel
theorem dX3_spread_5 : decode cX3_spread 5 = .ok (.iconst 0, 1) := by decide +kernel
theorem dX3_spread_6 : decode cX3_spread 6 = .ok (.istore 4, 2) := by decide +kernel
theorem dX3_spread_8 : decode cX3_spread 8 = .ok (.iload 4, 2) := by decide +kernel
theorem dX3_spread_10 : decode cX3_spread 10 = .ok (.iload_n 3, 1) := by decide +kernel
theorem dX3_spread_11 : decode cX3_spread 11 = .ok (.if_icmp .gt 132, 3) := by decide +kernel
theorem dX3_spread_14 : decode cX3_spread 14 = .ok (.iload 4, 2) := by decide +kernel
theorem dX3_spread_16 : decode cX3_spread 16 = .ok (.bipush 16, 2) := by decide +kernel
theorem dX3_spread_18 : decode cX3_spread 18 = .ok (.if_icmp .gt 125, 3) := by decide +kernel
theorem dX3_spread_21 : decode cX3_spread 21 = .ok (.iconst 0, 1) := by decide +kernel
theorem dX3_spread_22 : decode cX3_spread 22 = .ok (.istore 5, 2) := by decide +kernel
theorem dX3_spread_24 : decode cX3_spread 24 = .ok (.iload 5, 2) := by decide +kernel
theorem dX3_spread_26 : decode cX3_spread 26 = .ok (.aload_n 1, 1) := by decide +kernel
theorem dX3_spread_27 : decode cX3_spread 27 = .ok (.getfield 41, 3) := by decide +kernel
theorem dX3_spread_30 : decode cX3_spread 30 = .ok (.if_icmp .ge 107, 3) := by decide +kernel
theorem dX3_spread_33 : decode cX3_spread 33 = .ok (.aload_n 0, 1) := by decide +kernel
theorem dX3_spread_34 : decode cX3_spread 34 = .ok (.getfield 34, 3) := by decide +kernel
theorem dX3_spread_37 : decode cX3_spread 37 = .ok (.istore 6, 2) := by decide +kernel
theorem dX3_spread_39 : decode cX3_spread 39 = .ok (.aload_n 0, 1) := by decide +kernel
theorem dX3_spread_40 : decode cX3_spread 40 = .ok (.getfield 19, 3) := by decide +kernel
theorem dX3_spread_43 : decode cX3_spread 43 = .ok (.iload 4, 2) := by decide +kernel
theorem dX3_spread_45 : decode cX3_spread 45 = .ok (.aload_n 1, 1) := by decide +kernel
theorem dX3_spread_46 : decode cX3_spread 46 = .ok (.getfield 41, 3) := by decide +kernel
theorem dX3_spread_49 : decode cX3_spread 49 = .ok (.imul, 1) := by decide +kernel
theorem dX3_spread_50 : decode cX3_spread 50 = .ok (.iload 5, 2) := by decide +kernel
theorem dX3_spread_52 : decode cX3_spread 52 = .ok (.iadd, 1) := by decide +kernel
theorem dX3_spread_53 : decode cX3_spread 53 = .ok (.iload 6, 2) := by decide +kernel
theorem dX3_spread_55 : decode cX3_spread 55 = .ok (.iastore, 1) := by decide +kernel
theorem dX3_spread_56 : decode cX3_spread 56 = .ok (.iload 4, 2) := by decide +kernel
theorem dX3_spread_58 : decode cX3_spread 58 = .ok (.ifCond .gt 20, 3) := by decide +kernel
theorem dX3_spread_61 : decode cX3_spread 61 = .ok (.iload 5, 2) := by decide +kernel
theorem dX3_spread_63 : decode cX3_spread 63 = .ok (.iload_n 2, 1) := by decide +kernel
theorem dX3_spread_64 : decode cX3_spread 64 = .ok (.if_icmp .ne 14, 3) := by decide +kernel
theorem dX3_spread_67 : decode cX3_spread 67 = .ok (.aload_n 0, 1) := by decide +kernel
theorem dX3_spread_68 : decode cX3_spread 68 = .ok (.iload 6, 2) := by decide +kernel
theorem dX3_spread_70 : decode cX3_spread 70 = .ok (.lconst 0, 1) := by decide +kernel
theorem dX3_spread_71 : decode cX3_spread 71 = .ok (.iconst 0, 1) := by decide +kernel
theorem dX3_spread_72 : decode cX3_spread 72 = .ok (.invokevirtual 46, 3) := by decide +kernel
theorem dX3_spread_75 : decode cX3_spread 75 = .ok (.ifCond .eq 7, 3) := by decide +kernel
theorem dX3_spread_78 : decode cX3_spread 78 = .ok (.iconst 1, 1) := by decide +kernel
theorem dX3_spread_79 : decode cX3_spread 79 = .ok (.goto 4, 3) := by decide +kernel
theorem dX3_spread_82 : decode cX3_spread 82 = .ok (.iconst 0, 1) := by decide +kernel
theorem dX3_spread_83 : decode cX3_spread 83 = .ok (.istore 7, 2) := by decide +kernel
theorem dX3_spread_85 : decode cX3_spread 85 = .ok (.aload_n 0, 1) := by decide +kernel
theorem dX3_spread_86 : decode cX3_spread 86 = .ok (.aload_n 1, 1) := by decide +kernel
theorem dX3_spread_87 : decode cX3_spread 87 = .ok (.iload 4, 2) := by decide +kernel
theorem dX3_spread_89 : decode cX3_spread 89 = .ok (.iload 5, 2) := by decide +kernel
theorem dX3_spread_91 : decode cX3_spread 91 = .ok (.invokevirtual 50, 3) := by decide +kernel
theorem dX3_spread_94 : decode cX3_spread 94 = .ok (.iload 7, 2) := by decide +kernel
theorem dX3_spread_96 : decode cX3_spread 96 = .ok (.ifCond .eq 12, 3) := by decide +kernel
theorem dX3_spread_99 : decode cX3_spread 99 = .ok (.aload_n 0, 1) := by decide +kernel
theorem dX3_spread_100 : decode cX3_spread 100 = .ok (.iload 6, 2) := by decide +kernel
theorem dX3_spread_102 : decode cX3_spread 102 = .ok (.invokevirtual 54, 3) := by decide +kernel
theorem dX3_spread_105 : decode cX3_spread 105 = .ok (.ifCond .ne 5, 3) := by decide +kernel
theorem dX3_spread_108 : decode cX3_spread 108 = .ok (.iconst 0, 1) := by decide +kernel
theorem dX3_spread_109 : decode cX3_spread 109 = .ok (.ireturn, 1) := by decide +kernel
theorem dX3_spread_110 : decode cX3_spread 110 = .ok (.aload_n 0, 1) := by decide +kernel
theorem dX3_spread_111 : decode cX3_spread 111 = .ok (.getfield 19, 3) := by decide +kernel
theorem dX3_spread_114 : decode cX3_spread 114 = .ok (.iload 4, 2) := by decide +kernel
theorem dX3_spread_116 : decode cX3_spread 116 = .ok (.aload_n 1, 1) := by decide +kernel
theorem dX3_spread_117 : decode cX3_spread 117 = .ok (.getfield 41, 3) := by decide +kernel
theorem dX3_spread_120 : decode cX3_spread 120 = .ok (.imul, 1) := by decide +kernel
theorem dX3_spread_121 : decode cX3_spread 121 = .ok (.iload 5, 2) := by decide +kernel
theorem dX3_spread_123 : decode cX3_spread 123 = .ok (.iadd, 1) := by decide +kernel
theorem dX3_spread_124 : decode cX3_spread 124 = .ok (.iconst 1, 1) := by decide +kernel
theorem dX3_spread_125 : decode cX3_spread 125 = .ok (.iadd, 1) := by decide +kernel
theorem dX3_spread_126 : decode cX3_spread 126 = .ok (.aload_n 0, 1) := by decide +kernel
theorem dX3_spread_127 : decode cX3_spread 127 = .ok (.getfield 34, 3) := by decide +kernel
theorem dX3_spread_130 : decode cX3_spread 130 = .ok (.iastore, 1) := by decide +kernel
theorem dX3_spread_131 : decode cX3_spread 131 = .ok (.iinc 5 1, 3) := by decide +kernel
theorem dX3_spread_134 : decode cX3_spread 134 = .ok (.goto (-110), 3) := by decide +kernel
theorem dX3_spread_137 : decode cX3_spread 137 = .ok (.iinc 4 1, 3) := by decide +kernel
theorem dX3_spread_140 : decode cX3_spread 140 = .ok (.goto (-132), 3) := by decide +kernel
theorem dX3_spread_143 : decode cX3_spread 143 = .ok (.iconst 1, 1) := by decide +kernel
theorem dX3_spread_144 : decode cX3_spread 144 = .ok (.ireturn, 1) := by decide +kernel
theorem dX3_gatherSources_0 : decode cX3_gatherSources 0 = .ok (.aload_n 0, 1) := by decide +kernel
theorem dX3_gatherSources_1 : decode cX3_gatherSources 1 = .ok (.iconst 0, 1) := by decide +kernel
theorem dX3_gatherSources_2 : decode cX3_gatherSources 2 = .ok (.putfield 38, 3) := by decide +kernel
theorem dX3_gatherSources_5 : decode cX3_gatherSources 5 = .ok (.iload_n 2, 1) := by decide +kernel
theorem dX3_gatherSources_6 : decode cX3_gatherSources 6 = .ok (.iconst 1, 1) := by decide +kernel
theorem dX3_gatherSources_7 : decode cX3_gatherSources 7 = .ok (.if_icmp .lt 24, 3) := by decide +kernel
theorem dX3_gatherSources_10 : decode cX3_gatherSources 10 = .ok (.aload_n 0, 1) := by decide +kernel
theorem dX3_gatherSources_11 : decode cX3_gatherSources 11 = .ok (.iload_n 2, 1) := by decide +kernel
theorem dX3_gatherSources_12 : decode cX3_gatherSources 12 = .ok (.iconst 1, 1) := by decide +kernel
theorem dX3_gatherSources_13 : decode cX3_gatherSources 13 = .ok (.isub, 1) := by decide +kernel
theorem dX3_gatherSources_14 : decode cX3_gatherSources 14 = .ok (.aload_n 1, 1) := by decide +kernel
theorem dX3_gatherSources_15 : decode cX3_gatherSources 15 = .ok (.getfield 41, 3) := by decide +kernel
theorem dX3_gatherSources_18 : decode cX3_gatherSources 18 = .ok (.imul, 1) := by decide +kernel
theorem dX3_gatherSources_19 : decode cX3_gatherSources 19 = .ok (.iload_n 3, 1) := by decide +kernel
theorem dX3_gatherSources_20 : decode cX3_gatherSources 20 = .ok (.iadd, 1) := by decide +kernel
theorem dX3_gatherSources_21 : decode cX3_gatherSources 21 = .ok (.aload_n 1, 1) := by decide +kernel
theorem dX3_gatherSources_22 : decode cX3_gatherSources 22 = .ok (.getfield 58, 3) := by decide +kernel
theorem dX3_gatherSources_25 : decode cX3_gatherSources 25 = .ok (.iload_n 3, 1) := by decide +kernel
theorem dX3_gatherSources_26 : decode cX3_gatherSources 26 = .ok (.laload, 1) := by decide +kernel
theorem dX3_gatherSources_27 : decode cX3_gatherSources 27 = .ok (.iconst 0, 1) := by decide +kernel
theorem dX3_gatherSources_28 : decode cX3_gatherSources 28 = .ok (.invokevirtual 61, 3) := by decide +kernel
theorem dX3_gatherSources_31 : decode cX3_gatherSources 31 = .ok (.iconst 0, 1) := by decide +kernel
theorem dX3_gatherSources_32 : decode cX3_gatherSources 32 = .ok (.istore 4, 2) := by decide +kernel
theorem dX3_gatherSources_34 : decode cX3_gatherSources 34 = .ok (.iload 4, 2) := by decide +kernel
theorem dX3_gatherSources_36 : decode cX3_gatherSources 36 = .ok (.aload_n 1, 1) := by decide +kernel
theorem dX3_gatherSources_37 : decode cX3_gatherSources 37 = .ok (.getfield 65, 3) := by decide +kernel
theorem dX3_gatherSources_40 : decode cX3_gatherSources 40 = .ok (.if_icmp .ge 67, 3) := by decide +kernel
theorem dX3_gatherSources_43 : decode cX3_gatherSources 43 = .ok (.aload_n 1, 1) := by decide +kernel
theorem dX3_gatherSources_44 : decode cX3_gatherSources 44 = .ok (.iload 4, 2) := by decide +kernel
theorem dX3_gatherSources_46 : decode cX3_gatherSources 46 = .ok (.iload_n 3, 1) := by decide +kernel
theorem dX3_gatherSources_47 : decode cX3_gatherSources 47 = .ok (.invokevirtual 68, 3) := by decide +kernel
theorem dX3_gatherSources_50 : decode cX3_gatherSources 50 = .ok (.istore 5, 2) := by decide +kernel
theorem dX3_gatherSources_52 : decode cX3_gatherSources 52 = .ok (.aload_n 1, 1) := by decide +kernel
theorem dX3_gatherSources_53 : decode cX3_gatherSources 53 = .ok (.getfield 72, 3) := by decide +kernel
theorem dX3_gatherSources_56 : decode cX3_gatherSources 56 = .ok (.iload 4, 2) := by decide +kernel
theorem dX3_gatherSources_58 : decode cX3_gatherSources 58 = .ok (.iaload, 1) := by decide +kernel
theorem dX3_gatherSources_59 : decode cX3_gatherSources 59 = .ok (.istore 6, 2) := by decide +kernel
theorem dX3_gatherSources_61 : decode cX3_gatherSources 61 = .ok (.iload 5, 2) := by decide +kernel
theorem dX3_gatherSources_63 : decode cX3_gatherSources 63 = .ok (.ifCond .lt 38, 3) := by decide +kernel
theorem dX3_gatherSources_66 : decode cX3_gatherSources 66 = .ok (.iload 6, 2) := by decide +kernel
theorem dX3_gatherSources_68 : decode cX3_gatherSources 68 = .ok (.iload_n 2, 1) := by decide +kernel
theorem dX3_gatherSources_69 : decode cX3_gatherSources 69 = .ok (.if_icmp .gt 32, 3) := by decide +kernel
theorem dX3_gatherSources_72 : decode cX3_gatherSources 72 = .ok (.aload_n 0, 1) := by decide +kernel
theorem dX3_gatherSources_73 : decode cX3_gatherSources 73 = .ok (.iload_n 2, 1) := by decide +kernel
theorem dX3_gatherSources_74 : decode cX3_gatherSources 74 = .ok (.iload 6, 2) := by decide +kernel
theorem dX3_gatherSources_76 : decode cX3_gatherSources 76 = .ok (.isub, 1) := by decide +kernel
theorem dX3_gatherSources_77 : decode cX3_gatherSources 77 = .ok (.aload_n 1, 1) := by decide +kernel
theorem dX3_gatherSources_78 : decode cX3_gatherSources 78 = .ok (.getfield 41, 3) := by decide +kernel
theorem dX3_gatherSources_81 : decode cX3_gatherSources 81 = .ok (.imul, 1) := by decide +kernel
theorem dX3_gatherSources_82 : decode cX3_gatherSources 82 = .ok (.iload 5, 2) := by decide +kernel
theorem dX3_gatherSources_84 : decode cX3_gatherSources 84 = .ok (.iadd, 1) := by decide +kernel
theorem dX3_gatherSources_85 : decode cX3_gatherSources 85 = .ok (.iload 6, 2) := by decide +kernel
theorem dX3_gatherSources_87 : decode cX3_gatherSources 87 = .ok (.i2l, 1) := by decide +kernel
theorem dX3_gatherSources_88 : decode cX3_gatherSources 88 = .ok (.aload_n 1, 1) := by decide +kernel
theorem dX3_gatherSources_89 : decode cX3_gatherSources 89 = .ok (.getfield 75, 3) := by decide +kernel
theorem dX3_gatherSources_92 : decode cX3_gatherSources 92 = .ok (.iload 4, 2) := by decide +kernel
theorem dX3_gatherSources_94 : decode cX3_gatherSources 94 = .ok (.laload, 1) := by decide +kernel
theorem dX3_gatherSources_95 : decode cX3_gatherSources 95 = .ok (.lmul, 1) := by decide +kernel
theorem dX3_gatherSources_96 : decode cX3_gatherSources 96 = .ok (.iload 6, 2) := by decide +kernel
theorem dX3_gatherSources_98 : decode cX3_gatherSources 98 = .ok (.invokevirtual 61, 3) := by decide +kernel
theorem dX3_gatherSources_101 : decode cX3_gatherSources 101 = .ok (.iinc 4 1, 3) := by decide +kernel
theorem dX3_gatherSources_104 : decode cX3_gatherSources 104 = .ok (.goto (-70), 3) := by decide +kernel
theorem dX3_gatherSources_107 : decode cX3_gatherSources 107 = .ok (.return_, 1) := by decide +kernel
theorem dX3_addSource_0 : decode cX3_addSource 0 = .ok (.aload_n 0, 1) := by decide +kernel
theorem dX3_addSource_1 : decode cX3_addSource 1 = .ok (.getfield 38, 3) := by decide +kernel
theorem dX3_addSource_4 : decode cX3_addSource 4 = .ok (.bipush 13, 2) := by decide +kernel
theorem dX3_addSource_6 : decode cX3_addSource 6 = .ok (.if_icmp .ge 83, 3) := by decide +kernel
theorem dX3_addSource_9 : decode cX3_addSource 9 = .ok (.aload_n 0, 1) := by decide +kernel
theorem dX3_addSource_10 : decode cX3_addSource 10 = .ok (.getfield 19, 3) := by decide +kernel
theorem dX3_addSource_13 : decode cX3_addSource 13 = .ok (.iload_n 1, 1) := by decide +kernel
theorem dX3_addSource_14 : decode cX3_addSource 14 = .ok (.iaload, 1) := by decide +kernel
theorem dX3_addSource_15 : decode cX3_addSource 15 = .ok (.aload_n 0, 1) := by decide +kernel
theorem dX3_addSource_16 : decode cX3_addSource 16 = .ok (.getfield 19, 3) := by decide +kernel
theorem dX3_addSource_19 : decode cX3_addSource 19 = .ok (.iload_n 1, 1) := by decide +kernel
theorem dX3_addSource_20 : decode cX3_addSource 20 = .ok (.iconst 1, 1) := by decide +kernel
theorem dX3_addSource_21 : decode cX3_addSource 21 = .ok (.iadd, 1) := by decide +kernel
theorem dX3_addSource_22 : decode cX3_addSource 22 = .ok (.iaload, 1) := by decide +kernel
theorem dX3_addSource_23 : decode cX3_addSource 23 = .ok (.if_icmp .ge 66, 3) := by decide +kernel
theorem dX3_addSource_26 : decode cX3_addSource 26 = .ok (.aload_n 0, 1) := by decide +kernel
theorem dX3_addSource_27 : decode cX3_addSource 27 = .ok (.getfield 22, 3) := by decide +kernel
theorem dX3_addSource_30 : decode cX3_addSource 30 = .ok (.aload_n 0, 1) := by decide +kernel
theorem dX3_addSource_31 : decode cX3_addSource 31 = .ok (.getfield 38, 3) := by decide +kernel
theorem dX3_addSource_34 : decode cX3_addSource 34 = .ok (.aload_n 0, 1) := by decide +kernel
theorem dX3_addSource_35 : decode cX3_addSource 35 = .ok (.getfield 19, 3) := by decide +kernel
theorem dX3_addSource_38 : decode cX3_addSource 38 = .ok (.iload_n 1, 1) := by decide +kernel
theorem dX3_addSource_39 : decode cX3_addSource 39 = .ok (.iaload, 1) := by decide +kernel
theorem dX3_addSource_40 : decode cX3_addSource 40 = .ok (.iastore, 1) := by decide +kernel
theorem dX3_addSource_41 : decode cX3_addSource 41 = .ok (.aload_n 0, 1) := by decide +kernel
theorem dX3_addSource_42 : decode cX3_addSource 42 = .ok (.getfield 25, 3) := by decide +kernel
theorem dX3_addSource_45 : decode cX3_addSource 45 = .ok (.aload_n 0, 1) := by decide +kernel
theorem dX3_addSource_46 : decode cX3_addSource 46 = .ok (.getfield 38, 3) := by decide +kernel
theorem dX3_addSource_49 : decode cX3_addSource 49 = .ok (.aload_n 0, 1) := by decide +kernel
theorem dX3_addSource_50 : decode cX3_addSource 50 = .ok (.getfield 19, 3) := by decide +kernel
theorem dX3_addSource_53 : decode cX3_addSource 53 = .ok (.iload_n 1, 1) := by decide +kernel
theorem dX3_addSource_54 : decode cX3_addSource 54 = .ok (.iconst 1, 1) := by decide +kernel
theorem dX3_addSource_55 : decode cX3_addSource 55 = .ok (.iadd, 1) := by decide +kernel
theorem dX3_addSource_56 : decode cX3_addSource 56 = .ok (.iaload, 1) := by decide +kernel
theorem dX3_addSource_57 : decode cX3_addSource 57 = .ok (.iastore, 1) := by decide +kernel
theorem dX3_addSource_58 : decode cX3_addSource 58 = .ok (.aload_n 0, 1) := by decide +kernel
theorem dX3_addSource_59 : decode cX3_addSource 59 = .ok (.getfield 28, 3) := by decide +kernel
theorem dX3_addSource_62 : decode cX3_addSource 62 = .ok (.aload_n 0, 1) := by decide +kernel
theorem dX3_addSource_63 : decode cX3_addSource 63 = .ok (.getfield 38, 3) := by decide +kernel
theorem dX3_addSource_66 : decode cX3_addSource 66 = .ok (.lload_n 2, 1) := by decide +kernel
theorem dX3_addSource_67 : decode cX3_addSource 67 = .ok (.lastore, 1) := by decide +kernel
theorem dX3_addSource_68 : decode cX3_addSource 68 = .ok (.aload_n 0, 1) := by decide +kernel
theorem dX3_addSource_69 : decode cX3_addSource 69 = .ok (.getfield 31, 3) := by decide +kernel
theorem dX3_addSource_72 : decode cX3_addSource 72 = .ok (.aload_n 0, 1) := by decide +kernel
theorem dX3_addSource_73 : decode cX3_addSource 73 = .ok (.getfield 38, 3) := by decide +kernel
theorem dX3_addSource_76 : decode cX3_addSource 76 = .ok (.iload 4, 2) := by decide +kernel
theorem dX3_addSource_78 : decode cX3_addSource 78 = .ok (.iastore, 1) := by decide +kernel
theorem dX3_addSource_79 : decode cX3_addSource 79 = .ok (.aload_n 0, 1) := by decide +kernel
theorem dX3_addSource_80 : decode cX3_addSource 80 = .ok (.dup, 1) := by decide +kernel
theorem dX3_addSource_81 : decode cX3_addSource 81 = .ok (.getfield 38, 3) := by decide +kernel
theorem dX3_addSource_84 : decode cX3_addSource 84 = .ok (.iconst 1, 1) := by decide +kernel
theorem dX3_addSource_85 : decode cX3_addSource 85 = .ok (.iadd, 1) := by decide +kernel
theorem dX3_addSource_86 : decode cX3_addSource 86 = .ok (.putfield 38, 3) := by decide +kernel
theorem dX3_addSource_89 : decode cX3_addSource 89 = .ok (.return_, 1) := by decide +kernel
theorem dX3_merge_0 : decode cX3_merge 0 = .ok (.iconst 0, 1) := by decide +kernel
theorem dX3_merge_1 : decode cX3_merge 1 = .ok (.istore_n 2, 1) := by decide +kernel
theorem dX3_merge_2 : decode cX3_merge 2 = .ok (.iload_n 2, 1) := by decide +kernel
theorem dX3_merge_3 : decode cX3_merge 3 = .ok (.ldc 78, 2) := by decide +kernel
theorem dX3_merge_5 : decode cX3_merge 5 = .ok (.if_icmp .gt 76, 3) := by decide +kernel
theorem dX3_merge_8 : decode cX3_merge 8 = .ok (.aload_n 0, 1) := by decide +kernel
theorem dX3_merge_9 : decode cX3_merge 9 = .ok (.invokevirtual 79, 3) := by decide +kernel
theorem dX3_merge_12 : decode cX3_merge 12 = .ok (.istore_n 3, 1) := by decide +kernel
theorem dX3_merge_13 : decode cX3_merge 13 = .ok (.iload_n 3, 1) := by decide +kernel
theorem dX3_merge_14 : decode cX3_merge 14 = .ok (.ifCond .ge 5, 3) := by decide +kernel
theorem dX3_merge_17 : decode cX3_merge 17 = .ok (.iconst 1, 1) := by decide +kernel
theorem dX3_merge_18 : decode cX3_merge 18 = .ok (.ireturn, 1) := by decide +kernel
theorem dX3_merge_19 : decode cX3_merge 19 = .ok (.aload_n 0, 1) := by decide +kernel
theorem dX3_merge_20 : decode cX3_merge 20 = .ok (.getfield 22, 3) := by decide +kernel
theorem dX3_merge_23 : decode cX3_merge 23 = .ok (.iload_n 3, 1) := by decide +kernel
theorem dX3_merge_24 : decode cX3_merge 24 = .ok (.iaload, 1) := by decide +kernel
theorem dX3_merge_25 : decode cX3_merge 25 = .ok (.istore 4, 2) := by decide +kernel
theorem dX3_merge_27 : decode cX3_merge 27 = .ok (.aload_n 0, 1) := by decide +kernel
theorem dX3_merge_28 : decode cX3_merge 28 = .ok (.getfield 22, 3) := by decide +kernel
theorem dX3_merge_31 : decode cX3_merge 31 = .ok (.iload_n 3, 1) := by decide +kernel
theorem dX3_merge_32 : decode cX3_merge 32 = .ok (.dup2, 1) := by decide +kernel
theorem dX3_merge_33 : decode cX3_merge 33 = .ok (.iaload, 1) := by decide +kernel
theorem dX3_merge_34 : decode cX3_merge 34 = .ok (.iconst 1, 1) := by decide +kernel
theorem dX3_merge_35 : decode cX3_merge 35 = .ok (.iadd, 1) := by decide +kernel
theorem dX3_merge_36 : decode cX3_merge 36 = .ok (.iastore, 1) := by decide +kernel
theorem dX3_merge_37 : decode cX3_merge 37 = .ok (.aload_n 0, 1) := by decide +kernel
theorem dX3_merge_38 : decode cX3_merge 38 = .ok (.iload_n 1, 1) := by decide +kernel
theorem dX3_merge_39 : decode cX3_merge 39 = .ok (.aload_n 0, 1) := by decide +kernel
theorem dX3_merge_40 : decode cX3_merge 40 = .ok (.getfield 9, 3) := by decide +kernel
theorem dX3_merge_43 : decode cX3_merge 43 = .ok (.iload 4, 2) := by decide +kernel
theorem dX3_merge_45 : decode cX3_merge 45 = .ok (.laload, 1) := by decide +kernel
theorem dX3_merge_46 : decode cX3_merge 46 = .ok (.aload_n 0, 1) := by decide +kernel
theorem dX3_merge_47 : decode cX3_merge 47 = .ok (.getfield 28, 3) := by decide +kernel
theorem dX3_merge_50 : decode cX3_merge 50 = .ok (.iload_n 3, 1) := by decide +kernel
theorem dX3_merge_51 : decode cX3_merge 51 = .ok (.laload, 1) := by decide +kernel
theorem dX3_merge_52 : decode cX3_merge 52 = .ok (.ladd, 1) := by decide +kernel
theorem dX3_merge_53 : decode cX3_merge 53 = .ok (.aload_n 0, 1) := by decide +kernel
theorem dX3_merge_54 : decode cX3_merge 54 = .ok (.getfield 15, 3) := by decide +kernel
theorem dX3_merge_57 : decode cX3_merge 57 = .ok (.iload 4, 2) := by decide +kernel
theorem dX3_merge_59 : decode cX3_merge 59 = .ok (.iaload, 1) := by decide +kernel
theorem dX3_merge_60 : decode cX3_merge 60 = .ok (.aload_n 0, 1) := by decide +kernel
theorem dX3_merge_61 : decode cX3_merge 61 = .ok (.getfield 31, 3) := by decide +kernel
theorem dX3_merge_64 : decode cX3_merge 64 = .ok (.iload_n 3, 1) := by decide +kernel
theorem dX3_merge_65 : decode cX3_merge 65 = .ok (.iaload, 1) := by decide +kernel
theorem dX3_merge_66 : decode cX3_merge 66 = .ok (.iadd, 1) := by decide +kernel
theorem dX3_merge_67 : decode cX3_merge 67 = .ok (.invokevirtual 46, 3) := by decide +kernel
theorem dX3_merge_70 : decode cX3_merge 70 = .ok (.ifCond .ne 5, 3) := by decide +kernel
theorem dX3_merge_73 : decode cX3_merge 73 = .ok (.iconst 0, 1) := by decide +kernel
theorem dX3_merge_74 : decode cX3_merge 74 = .ok (.ireturn, 1) := by decide +kernel
theorem dX3_merge_75 : decode cX3_merge 75 = .ok (.iinc 2 1, 3) := by decide +kernel
theorem dX3_merge_78 : decode cX3_merge 78 = .ok (.goto (-76), 3) := by decide +kernel
theorem dX3_merge_81 : decode cX3_merge 81 = .ok (.iconst 0, 1) := by decide +kernel
theorem dX3_merge_82 : decode cX3_merge 82 = .ok (.ireturn, 1) := by decide +kernel
theorem dX3_youngestSource_0 : decode cX3_youngestSource 0 = .ok (.iconst (-1), 1) := by decide +kernel
theorem dX3_youngestSource_1 : decode cX3_youngestSource 1 = .ok (.istore_n 1, 1) := by decide +kernel
theorem dX3_youngestSource_2 : decode cX3_youngestSource 2 = .ok (.lconst 0, 1) := by decide +kernel
theorem dX3_youngestSource_3 : decode cX3_youngestSource 3 = .ok (.lstore_n 2, 1) := by decide +kernel
theorem dX3_youngestSource_4 : decode cX3_youngestSource 4 = .ok (.iconst 0, 1) := by decide +kernel
theorem dX3_youngestSource_5 : decode cX3_youngestSource 5 = .ok (.istore 4, 2) := by decide +kernel
theorem dX3_youngestSource_7 : decode cX3_youngestSource 7 = .ok (.iload 4, 2) := by decide +kernel
theorem dX3_youngestSource_9 : decode cX3_youngestSource 9 = .ok (.aload_n 0, 1) := by decide +kernel
theorem dX3_youngestSource_10 : decode cX3_youngestSource 10 = .ok (.getfield 38, 3) := by decide +kernel
theorem dX3_youngestSource_13 : decode cX3_youngestSource 13 = .ok (.if_icmp .ge 68, 3) := by decide +kernel
theorem dX3_youngestSource_16 : decode cX3_youngestSource 16 = .ok (.aload_n 0, 1) := by decide +kernel
theorem dX3_youngestSource_17 : decode cX3_youngestSource 17 = .ok (.getfield 22, 3) := by decide +kernel
theorem dX3_youngestSource_20 : decode cX3_youngestSource 20 = .ok (.iload 4, 2) := by decide +kernel
theorem dX3_youngestSource_22 : decode cX3_youngestSource 22 = .ok (.iaload, 1) := by decide +kernel
theorem dX3_youngestSource_23 : decode cX3_youngestSource 23 = .ok (.aload_n 0, 1) := by decide +kernel
theorem dX3_youngestSource_24 : decode cX3_youngestSource 24 = .ok (.getfield 25, 3) := by decide +kernel
theorem dX3_youngestSource_27 : decode cX3_youngestSource 27 = .ok (.iload 4, 2) := by decide +kernel
theorem dX3_youngestSource_29 : decode cX3_youngestSource 29 = .ok (.iaload, 1) := by decide +kernel
theorem dX3_youngestSource_30 : decode cX3_youngestSource 30 = .ok (.if_icmp .lt 6, 3) := by decide +kernel
theorem dX3_youngestSource_33 : decode cX3_youngestSource 33 = .ok (.goto 42, 3) := by decide +kernel
theorem dX3_youngestSource_36 : decode cX3_youngestSource 36 = .ok (.aload_n 0, 1) := by decide +kernel
theorem dX3_youngestSource_37 : decode cX3_youngestSource 37 = .ok (.getfield 9, 3) := by decide +kernel
theorem dX3_youngestSource_40 : decode cX3_youngestSource 40 = .ok (.aload_n 0, 1) := by decide +kernel
theorem dX3_youngestSource_41 : decode cX3_youngestSource 41 = .ok (.getfield 22, 3) := by decide +kernel
theorem dX3_youngestSource_44 : decode cX3_youngestSource 44 = .ok (.iload 4, 2) := by decide +kernel
theorem dX3_youngestSource_46 : decode cX3_youngestSource 46 = .ok (.iaload, 1) := by decide +kernel
theorem dX3_youngestSource_47 : decode cX3_youngestSource 47 = .ok (.laload, 1) := by decide +kernel
theorem dX3_youngestSource_48 : decode cX3_youngestSource 48 = .ok (.aload_n 0, 1) := by decide +kernel
theorem dX3_youngestSource_49 : decode cX3_youngestSource 49 = .ok (.getfield 28, 3) := by decide +kernel
theorem dX3_youngestSource_52 : decode cX3_youngestSource 52 = .ok (.iload 4, 2) := by decide +kernel
theorem dX3_youngestSource_54 : decode cX3_youngestSource 54 = .ok (.laload, 1) := by decide +kernel
theorem dX3_youngestSource_55 : decode cX3_youngestSource 55 = .ok (.ladd, 1) := by decide +kernel
theorem dX3_youngestSource_56 : decode cX3_youngestSource 56 = .ok (.lstore 5, 2) := by decide +kernel
theorem dX3_youngestSource_58 : decode cX3_youngestSource 58 = .ok (.iload_n 1, 1) := by decide +kernel
theorem dX3_youngestSource_59 : decode cX3_youngestSource 59 = .ok (.ifCond .lt 10, 3) := by decide +kernel
theorem dX3_youngestSource_62 : decode cX3_youngestSource 62 = .ok (.lload 5, 2) := by decide +kernel
theorem dX3_youngestSource_64 : decode cX3_youngestSource 64 = .ok (.lload_n 2, 1) := by decide +kernel
theorem dX3_youngestSource_65 : decode cX3_youngestSource 65 = .ok (.lcmp, 1) := by decide +kernel
theorem dX3_youngestSource_66 : decode cX3_youngestSource 66 = .ok (.ifCond .ge 9, 3) := by decide +kernel
theorem dX3_youngestSource_69 : decode cX3_youngestSource 69 = .ok (.iload 4, 2) := by decide +kernel
theorem dX3_youngestSource_71 : decode cX3_youngestSource 71 = .ok (.istore_n 1, 1) := by decide +kernel
theorem dX3_youngestSource_72 : decode cX3_youngestSource 72 = .ok (.lload 5, 2) := by decide +kernel
theorem dX3_youngestSource_74 : decode cX3_youngestSource 74 = .ok (.lstore_n 2, 1) := by decide +kernel
theorem dX3_youngestSource_75 : decode cX3_youngestSource 75 = .ok (.iinc 4 1, 3) := by decide +kernel
theorem dX3_youngestSource_78 : decode cX3_youngestSource 78 = .ok (.goto (-71), 3) := by decide +kernel
theorem dX3_youngestSource_81 : decode cX3_youngestSource 81 = .ok (.iload_n 1, 1) := by decide +kernel
theorem dX3_youngestSource_82 : decode cX3_youngestSource 82 = .ok (.ireturn, 1) := by decide +kernel
theorem dX3_keep_0 : decode cX3_keep 0 = .ok (.aload_n 0, 1) := by decide +kernel
theorem dX3_keep_1 : decode cX3_keep 1 = .ok (.getfield 34, 3) := by decide +kernel
theorem dX3_keep_4 : decode cX3_keep 4 = .ok (.iload_n 1, 1) := by decide +kernel
theorem dX3_keep_5 : decode cX3_keep 5 = .ok (.if_icmp .le 48, 3) := by decide +kernel
theorem dX3_keep_8 : decode cX3_keep 8 = .ok (.aload_n 0, 1) := by decide +kernel
theorem dX3_keep_9 : decode cX3_keep 9 = .ok (.getfield 9, 3) := by decide +kernel
theorem dX3_keep_12 : decode cX3_keep 12 = .ok (.aload_n 0, 1) := by decide +kernel
theorem dX3_keep_13 : decode cX3_keep 13 = .ok (.getfield 34, 3) := by decide +kernel
theorem dX3_keep_16 : decode cX3_keep 16 = .ok (.iconst 1, 1) := by decide +kernel
theorem dX3_keep_17 : decode cX3_keep 17 = .ok (.isub, 1) := by decide +kernel
theorem dX3_keep_18 : decode cX3_keep 18 = .ok (.laload, 1) := by decide +kernel
theorem dX3_keep_19 : decode cX3_keep 19 = .ok (.lload_n 2, 1) := by decide +kernel
theorem dX3_keep_20 : decode cX3_keep 20 = .ok (.lcmp, 1) := by decide +kernel
theorem dX3_keep_21 : decode cX3_keep 21 = .ok (.ifCond .ne 32, 3) := by decide +kernel
theorem dX3_keep_24 : decode cX3_keep 24 = .ok (.aload_n 0, 1) := by decide +kernel
theorem dX3_keep_25 : decode cX3_keep 25 = .ok (.getfield 15, 3) := by decide +kernel
theorem dX3_keep_28 : decode cX3_keep 28 = .ok (.aload_n 0, 1) := by decide +kernel
theorem dX3_keep_29 : decode cX3_keep 29 = .ok (.getfield 34, 3) := by decide +kernel
theorem dX3_keep_32 : decode cX3_keep 32 = .ok (.iconst 1, 1) := by decide +kernel
theorem dX3_keep_33 : decode cX3_keep 33 = .ok (.isub, 1) := by decide +kernel
theorem dX3_keep_34 : decode cX3_keep 34 = .ok (.aload_n 0, 1) := by decide +kernel
theorem dX3_keep_35 : decode cX3_keep 35 = .ok (.getfield 15, 3) := by decide +kernel
theorem dX3_keep_38 : decode cX3_keep 38 = .ok (.aload_n 0, 1) := by decide +kernel
theorem dX3_keep_39 : decode cX3_keep 39 = .ok (.getfield 34, 3) := by decide +kernel
theorem dX3_keep_42 : decode cX3_keep 42 = .ok (.iconst 1, 1) := by decide +kernel
theorem dX3_keep_43 : decode cX3_keep 43 = .ok (.isub, 1) := by decide +kernel
theorem dX3_keep_44 : decode cX3_keep 44 = .ok (.iaload, 1) := by decide +kernel
theorem dX3_keep_45 : decode cX3_keep 45 = .ok (.iload 4, 2) := by decide +kernel
theorem dX3_keep_47 : decode cX3_keep 47 = .ok (.invokestatic 83, 3) := by decide +kernel
theorem dX3_keep_50 : decode cX3_keep 50 = .ok (.iastore, 1) := by decide +kernel
theorem dX3_keep_51 : decode cX3_keep 51 = .ok (.iconst 1, 1) := by decide +kernel
theorem dX3_keep_52 : decode cX3_keep 52 = .ok (.ireturn, 1) := by decide +kernel
theorem dX3_keep_53 : decode cX3_keep 53 = .ok (.aload_n 0, 1) := by decide +kernel
theorem dX3_keep_54 : decode cX3_keep 54 = .ok (.getfield 34, 3) := by decide +kernel
theorem dX3_keep_57 : decode cX3_keep 57 = .ok (.sipush 4000, 3) := by decide +kernel
theorem dX3_keep_60 : decode cX3_keep 60 = .ok (.if_icmp .lt 5, 3) := by decide +kernel
theorem dX3_keep_63 : decode cX3_keep 63 = .ok (.iconst 0, 1) := by decide +kernel
theorem dX3_keep_64 : decode cX3_keep 64 = .ok (.ireturn, 1) := by decide +kernel
theorem dX3_keep_65 : decode cX3_keep 65 = .ok (.aload_n 0, 1) := by decide +kernel
theorem dX3_keep_66 : decode cX3_keep 66 = .ok (.getfield 9, 3) := by decide +kernel
theorem dX3_keep_69 : decode cX3_keep 69 = .ok (.aload_n 0, 1) := by decide +kernel
theorem dX3_keep_70 : decode cX3_keep 70 = .ok (.getfield 34, 3) := by decide +kernel
theorem dX3_keep_73 : decode cX3_keep 73 = .ok (.lload_n 2, 1) := by decide +kernel
theorem dX3_keep_74 : decode cX3_keep 74 = .ok (.lastore, 1) := by decide +kernel
theorem dX3_keep_75 : decode cX3_keep 75 = .ok (.aload_n 0, 1) := by decide +kernel
theorem dX3_keep_76 : decode cX3_keep 76 = .ok (.getfield 15, 3) := by decide +kernel
theorem dX3_keep_79 : decode cX3_keep 79 = .ok (.aload_n 0, 1) := by decide +kernel
theorem dX3_keep_80 : decode cX3_keep 80 = .ok (.getfield 34, 3) := by decide +kernel
theorem dX3_keep_83 : decode cX3_keep 83 = .ok (.iload 4, 2) := by decide +kernel
theorem dX3_keep_85 : decode cX3_keep 85 = .ok (.iastore, 1) := by decide +kernel
theorem dX3_keep_86 : decode cX3_keep 86 = .ok (.aload_n 0, 1) := by decide +kernel
theorem dX3_keep_87 : decode cX3_keep 87 = .ok (.dup, 1) := by decide +kernel
theorem dX3_keep_88 : decode cX3_keep 88 = .ok (.getfield 34, 3) := by decide +kernel
theorem dX3_keep_91 : decode cX3_keep 91 = .ok (.iconst 1, 1) := by decide +kernel
theorem dX3_keep_92 : decode cX3_keep 92 = .ok (.iadd, 1) := by decide +kernel
theorem dX3_keep_93 : decode cX3_keep 93 = .ok (.putfield 34, 3) := by decide +kernel
theorem dX3_keep_96 : decode cX3_keep 96 = .ok (.iconst 1, 1) := by decide +kernel
theorem dX3_keep_97 : decode cX3_keep 97 = .ok (.ireturn, 1) := by decide +kernel
theorem dX3_leastCarried_0 : decode cX3_leastCarried 0 = .ok (.bipush (-2), 2) := by decide +kernel
theorem dX3_leastCarried_2 : decode cX3_leastCarried 2 = .ok (.istore 8, 2) := by decide +kernel
theorem dX3_leastCarried_4 : decode cX3_leastCarried 4 = .ok (.iload_n 3, 1) := by decide +kernel
theorem dX3_leastCarried_5 : decode cX3_leastCarried 5 = .ok (.aload_n 1, 1) := by decide +kernel
theorem dX3_leastCarried_6 : decode cX3_leastCarried 6 = .ok (.getfield 41, 3) := by decide +kernel
theorem dX3_leastCarried_9 : decode cX3_leastCarried 9 = .ok (.imul, 1) := by decide +kernel
theorem dX3_leastCarried_10 : decode cX3_leastCarried 10 = .ok (.iload_n 2, 1) := by decide +kernel
theorem dX3_leastCarried_11 : decode cX3_leastCarried 11 = .ok (.iadd, 1) := by decide +kernel
theorem dX3_leastCarried_12 : decode cX3_leastCarried 12 = .ok (.istore 9, 2) := by decide +kernel
theorem dX3_leastCarried_14 : decode cX3_leastCarried 14 = .ok (.aload_n 0, 1) := by decide +kernel
theorem dX3_leastCarried_15 : decode cX3_leastCarried 15 = .ok (.getfield 19, 3) := by decide +kernel
theorem dX3_leastCarried_18 : decode cX3_leastCarried 18 = .ok (.iload 9, 2) := by decide +kernel
theorem dX3_leastCarried_20 : decode cX3_leastCarried 20 = .ok (.iaload, 1) := by decide +kernel
theorem dX3_leastCarried_21 : decode cX3_leastCarried 21 = .ok (.istore 10, 2) := by decide +kernel
theorem dX3_leastCarried_23 : decode cX3_leastCarried 23 = .ok (.iload 10, 2) := by decide +kernel
theorem dX3_leastCarried_25 : decode cX3_leastCarried 25 = .ok (.aload_n 0, 1) := by decide +kernel
theorem dX3_leastCarried_26 : decode cX3_leastCarried 26 = .ok (.getfield 19, 3) := by decide +kernel
theorem dX3_leastCarried_29 : decode cX3_leastCarried 29 = .ok (.iload 9, 2) := by decide +kernel
theorem dX3_leastCarried_31 : decode cX3_leastCarried 31 = .ok (.iconst 1, 1) := by decide +kernel
theorem dX3_leastCarried_32 : decode cX3_leastCarried 32 = .ok (.iadd, 1) := by decide +kernel
theorem dX3_leastCarried_33 : decode cX3_leastCarried 33 = .ok (.iaload, 1) := by decide +kernel
theorem dX3_leastCarried_34 : decode cX3_leastCarried 34 = .ok (.if_icmp .ge 73, 3) := by decide +kernel
theorem dX3_leastCarried_37 : decode cX3_leastCarried 37 = .ok (.aload_n 0, 1) := by decide +kernel
theorem dX3_leastCarried_38 : decode cX3_leastCarried 38 = .ok (.getfield 9, 3) := by decide +kernel
theorem dX3_leastCarried_41 : decode cX3_leastCarried 41 = .ok (.iload 10, 2) := by decide +kernel
theorem dX3_leastCarried_43 : decode cX3_leastCarried 43 = .ok (.laload, 1) := by decide +kernel
theorem dX3_leastCarried_44 : decode cX3_leastCarried 44 = .ok (.lload 4, 2) := by decide +kernel
theorem dX3_leastCarried_46 : decode cX3_leastCarried 46 = .ok (.lcmp, 1) := by decide +kernel
theorem dX3_leastCarried_47 : decode cX3_leastCarried 47 = .ok (.ifCond .lt 20, 3) := by decide +kernel
theorem dX3_leastCarried_50 : decode cX3_leastCarried 50 = .ok (.aload_n 0, 1) := by decide +kernel
theorem dX3_leastCarried_51 : decode cX3_leastCarried 51 = .ok (.getfield 9, 3) := by decide +kernel
theorem dX3_leastCarried_54 : decode cX3_leastCarried 54 = .ok (.iload 10, 2) := by decide +kernel
theorem dX3_leastCarried_56 : decode cX3_leastCarried 56 = .ok (.laload, 1) := by decide +kernel
theorem dX3_leastCarried_57 : decode cX3_leastCarried 57 = .ok (.lload 6, 2) := by decide +kernel
theorem dX3_leastCarried_59 : decode cX3_leastCarried 59 = .ok (.lcmp, 1) := by decide +kernel
theorem dX3_leastCarried_60 : decode cX3_leastCarried 60 = .ok (.ifCond .gt 7, 3) := by decide +kernel
theorem dX3_leastCarried_63 : decode cX3_leastCarried 63 = .ok (.iconst 1, 1) := by decide +kernel
theorem dX3_leastCarried_64 : decode cX3_leastCarried 64 = .ok (.goto 4, 3) := by decide +kernel
theorem dX3_leastCarried_67 : decode cX3_leastCarried 67 = .ok (.iconst 0, 1) := by decide +kernel
theorem dX3_leastCarried_68 : decode cX3_leastCarried 68 = .ok (.istore 11, 2) := by decide +kernel
theorem dX3_leastCarried_70 : decode cX3_leastCarried 70 = .ok (.iload 11, 2) := by decide +kernel
theorem dX3_leastCarried_72 : decode cX3_leastCarried 72 = .ok (.ifCond .eq 29, 3) := by decide +kernel
theorem dX3_leastCarried_75 : decode cX3_leastCarried 75 = .ok (.iload 8, 2) := by decide +kernel
theorem dX3_leastCarried_77 : decode cX3_leastCarried 77 = .ok (.ifCond .lt 15, 3) := by decide +kernel
theorem dX3_leastCarried_80 : decode cX3_leastCarried 80 = .ok (.aload_n 0, 1) := by decide +kernel
theorem dX3_leastCarried_81 : decode cX3_leastCarried 81 = .ok (.getfield 15, 3) := by decide +kernel
theorem dX3_leastCarried_84 : decode cX3_leastCarried 84 = .ok (.iload 10, 2) := by decide +kernel
theorem dX3_leastCarried_86 : decode cX3_leastCarried 86 = .ok (.iaload, 1) := by decide +kernel
theorem dX3_leastCarried_87 : decode cX3_leastCarried 87 = .ok (.iload 8, 2) := by decide +kernel
theorem dX3_leastCarried_89 : decode cX3_leastCarried 89 = .ok (.if_icmp .ge 12, 3) := by decide +kernel
theorem dX3_leastCarried_92 : decode cX3_leastCarried 92 = .ok (.aload_n 0, 1) := by decide +kernel
theorem dX3_leastCarried_93 : decode cX3_leastCarried 93 = .ok (.getfield 15, 3) := by decide +kernel
theorem dX3_leastCarried_96 : decode cX3_leastCarried 96 = .ok (.iload 10, 2) := by decide +kernel
theorem dX3_leastCarried_98 : decode cX3_leastCarried 98 = .ok (.iaload, 1) := by decide +kernel
theorem dX3_leastCarried_99 : decode cX3_leastCarried 99 = .ok (.istore 8, 2) := by decide +kernel
theorem dX3_leastCarried_101 : decode cX3_leastCarried 101 = .ok (.iinc 10 1, 3) := by decide +kernel
theorem dX3_leastCarried_104 : decode cX3_leastCarried 104 = .ok (.goto (-81), 3) := by decide +kernel
theorem dX3_leastCarried_107 : decode cX3_leastCarried 107 = .ok (.iload 8, 2) := by decide +kernel
theorem dX3_leastCarried_109 : decode cX3_leastCarried 109 = .ok (.ireturn, 1) := by decide +kernel
theorem dX4_init_0 : decode cX4_init 0 = .ok (.aload_n 0, 1) := by decide +kernel
theorem dX4_init_1 : decode cX4_init 1 = .ok (.invokespecial 3, 3) := by decide +kernel
theorem dX4_init_4 : decode cX4_init 4 = .ok (.aload_n 0, 1) := by decide +kernel
theorem dX4_init_5 : decode cX4_init 5 = .ok (.sipush 400, 3) := by decide +kernel
theorem dX4_init_8 : decode cX4_init 8 = .ok (.newarray .int, 2) := by decide +kernel
theorem dX4_init_10 : decode cX4_init 10 = .ok (.putfield 9, 3) := by decide +kernel
theorem dX4_init_13 : decode cX4_init 13 = .ok (.aload_n 0, 1) := by decide +kernel
theorem dX4_init_14 : decode cX4_init 14 = .ok (.bipush 60, 2) := by decide +kernel
theorem dX4_init_16 : decode cX4_init 16 = .ok (.newarray .long, 2) := by decide +kernel
theorem dX4_init_18 : decode cX4_init 18 = .ok (.putfield 15, 3) := by decide +kernel
theorem dX4_init_21 : decode cX4_init 21 = .ok (.aload_n 0, 1) := by decide +kernel
theorem dX4_init_22 : decode cX4_init 22 = .ok (.iconst 0, 1) := by decide +kernel
theorem dX4_init_23 : decode cX4_init 23 = .ok (.putfield 19, 3) := by decide +kernel
theorem dX4_init_26 : decode cX4_init 26 = .ok (.aload_n 0, 1) := by decide +kernel
theorem dX4_init_27 : decode cX4_init 27 = .ok (.iconst 0, 1) := by decide +kernel
theorem dX4_init_28 : decode cX4_init 28 = .ok (.putfield 23, 3) := by decide +kernel
theorem dX4_init_31 : decode cX4_init 31 = .ok (.return_, 1) := by decide +kernel
theorem dX4_copyFrom_0 : decode cX4_copyFrom 0 = .ok (.aload_n 1, 1) := by decide +kernel
theorem dX4_copyFrom_1 : decode cX4_copyFrom 1 = .ok (.getfield 9, 3) := by decide +kernel
theorem dX4_copyFrom_4 : decode cX4_copyFrom 4 = .ok (.iconst 0, 1) := by decide +kernel
theorem dX4_copyFrom_5 : decode cX4_copyFrom 5 = .ok (.aload_n 0, 1) := by decide +kernel
theorem dX4_copyFrom_6 : decode cX4_copyFrom 6 = .ok (.getfield 9, 3) := by decide +kernel
theorem dX4_copyFrom_9 : decode cX4_copyFrom 9 = .ok (.iconst 0, 1) := by decide +kernel
theorem dX4_copyFrom_10 : decode cX4_copyFrom 10 = .ok (.sipush 400, 3) := by decide +kernel
theorem dX4_copyFrom_13 : decode cX4_copyFrom 13 = .ok (.invokestatic 26, 3) := by decide +kernel
theorem dX4_copyFrom_16 : decode cX4_copyFrom 16 = .ok (.aload_n 0, 1) := by decide +kernel
theorem dX4_copyFrom_17 : decode cX4_copyFrom 17 = .ok (.aload_n 1, 1) := by decide +kernel
theorem dX4_copyFrom_18 : decode cX4_copyFrom 18 = .ok (.getfield 19, 3) := by decide +kernel
theorem dX4_copyFrom_21 : decode cX4_copyFrom 21 = .ok (.putfield 19, 3) := by decide +kernel
theorem dX4_copyFrom_24 : decode cX4_copyFrom 24 = .ok (.return_, 1) := by decide +kernel
theorem dX4_write_0 : decode cX4_write 0 = .ok (.aload_n 0, 1) := by decide +kernel
theorem dX4_write_1 : decode cX4_write 1 = .ok (.getfield 19, 3) := by decide +kernel
theorem dX4_write_4 : decode cX4_write 4 = .ok (.sipush 400, 3) := by decide +kernel
theorem dX4_write_7 : decode cX4_write 7 = .ok (.if_icmp .ge 27, 3) := by decide +kernel
theorem dX4_write_10 : decode cX4_write 10 = .ok (.aload_n 0, 1) := by decide +kernel
theorem dX4_write_11 : decode cX4_write 11 = .ok (.getfield 9, 3) := by decide +kernel
theorem dX4_write_14 : decode cX4_write 14 = .ok (.aload_n 0, 1) := by decide +kernel
theorem dX4_write_15 : decode cX4_write 15 = .ok (.getfield 19, 3) := by decide +kernel
theorem dX4_write_18 : decode cX4_write 18 = .ok (.iload_n 2, 1) := by decide +kernel
theorem dX4_write_19 : decode cX4_write 19 = .ok (.iconst 5, 1) := by decide +kernel
theorem dX4_write_20 : decode cX4_write 20 = .ok (.ishl, 1) := by decide +kernel
theorem dX4_write_21 : decode cX4_write 21 = .ok (.iload_n 1, 1) := by decide +kernel
theorem dX4_write_22 : decode cX4_write 22 = .ok (.ior, 1) := by decide +kernel
theorem dX4_write_23 : decode cX4_write 23 = .ok (.iastore, 1) := by decide +kernel
theorem dX4_write_24 : decode cX4_write 24 = .ok (.aload_n 0, 1) := by decide +kernel
theorem dX4_write_25 : decode cX4_write 25 = .ok (.dup, 1) := by decide +kernel
theorem dX4_write_26 : decode cX4_write 26 = .ok (.getfield 19, 3) := by decide +kernel
theorem dX4_write_29 : decode cX4_write 29 = .ok (.iconst 1, 1) := by decide +kernel
theorem dX4_write_30 : decode cX4_write 30 = .ok (.iadd, 1) := by decide +kernel
theorem dX4_write_31 : decode cX4_write 31 = .ok (.putfield 19, 3) := by decide +kernel
theorem dX4_write_34 : decode cX4_write 34 = .ok (.return_, 1) := by decide +kernel
theorem dX4_goalOf_0 : decode cX4_goalOf 0 = .ok (.aload_n 0, 1) := by decide +kernel
theorem dX4_goalOf_1 : decode cX4_goalOf 1 = .ok (.iconst 0, 1) := by decide +kernel
theorem dX4_goalOf_2 : decode cX4_goalOf 2 = .ok (.putfield 23, 3) := by decide +kernel
theorem dX4_goalOf_5 : decode cX4_goalOf 5 = .ok (.iconst 0, 1) := by decide +kernel
theorem dX4_goalOf_6 : decode cX4_goalOf 6 = .ok (.istore 4, 2) := by decide +kernel
theorem dX4_goalOf_8 : decode cX4_goalOf 8 = .ok (.iload 4, 2) := by decide +kernel
theorem dX4_goalOf_10 : decode cX4_goalOf 10 = .ok (.aload_n 0, 1) := by decide +kernel
theorem dX4_goalOf_11 : decode cX4_goalOf 11 = .ok (.getfield 19, 3) := by decide +kernel
theorem dX4_goalOf_14 : decode cX4_goalOf 14 = .ok (.if_icmp .ge 151, 3) := by decide +kernel
theorem dX4_goalOf_17 : decode cX4_goalOf 17 = .ok (.iload 4, 2) := by decide +kernel
theorem dX4_goalOf_19 : decode cX4_goalOf 19 = .ok (.sipush 400, 3) := by decide +kernel
theorem dX4_goalOf_22 : decode cX4_goalOf 22 = .ok (.if_icmp .ge 143, 3) := by decide +kernel
theorem dX4_goalOf_25 : decode cX4_goalOf 25 = .ok (.aload_n 0, 1) := by decide +kernel
theorem dX4_goalOf_26 : decode cX4_goalOf 26 = .ok (.getfield 9, 3) := by decide +kernel
theorem dX4_goalOf_29 : decode cX4_goalOf 29 = .ok (.iload 4, 2) := by decide +kernel
theorem dX4_goalOf_31 : decode cX4_goalOf 31 = .ok (.iaload, 1) := by decide +kernel
theorem dX4_goalOf_32 : decode cX4_goalOf 32 = .ok (.bipush 31, 2) := by decide +kernel
theorem dX4_goalOf_34 : decode cX4_goalOf 34 = .ok (.iand, 1) := by decide +kernel
theorem dX4_goalOf_35 : decode cX4_goalOf 35 = .ok (.istore 5, 2) := by decide +kernel
theorem dX4_goalOf_37 : decode cX4_goalOf 37 = .ok (.aload_n 0, 1) := by decide +kernel
theorem dX4_goalOf_38 : decode cX4_goalOf 38 = .ok (.getfield 9, 3) := by decide +kernel
theorem dX4_goalOf_41 : decode cX4_goalOf 41 = .ok (.iload 4, 2) := by decide +kernel
theorem dX4_goalOf_43 : decode cX4_goalOf 43 = .ok (.iaload, 1) := by decide +kernel
theorem dX4_goalOf_44 : decode cX4_goalOf 44 = .ok (.iconst 5, 1) := by decide +kernel
theorem dX4_goalOf_45 : decode cX4_goalOf 45 = .ok (.ishr, 1) := by decide +kernel
theorem dX4_goalOf_46 : decode cX4_goalOf 46 = .ok (.istore 6, 2) := by decide +kernel
theorem dX4_goalOf_48 : decode cX4_goalOf 48 = .ok (.iload 5, 2) := by decide +kernel
theorem dX4_goalOf_50 : decode cX4_goalOf 50 = .ok (.ifCond .ne 6, 3) := by decide +kernel
theorem dX4_goalOf_53 : decode cX4_goalOf 53 = .ok (.iload 6, 2) := by decide +kernel
theorem dX4_goalOf_55 : decode cX4_goalOf 55 = .ok (.ireturn, 1) := by decide +kernel
theorem dX4_goalOf_56 : decode cX4_goalOf 56 = .ok (.iload 5, 2) := by decide +kernel
theorem dX4_goalOf_58 : decode cX4_goalOf 58 = .ok (.iconst 1, 1) := by decide +kernel
theorem dX4_goalOf_59 : decode cX4_goalOf 59 = .ok (.if_icmp .ne 15, 3) := by decide +kernel
theorem dX4_goalOf_62 : decode cX4_goalOf 62 = .ok (.aload_n 0, 1) := by decide +kernel
theorem dX4_goalOf_63 : decode cX4_goalOf 63 = .ok (.invokevirtual 32, 3) := by decide +kernel
theorem dX4_goalOf_66 : decode cX4_goalOf 66 = .ok (.lconst 0, 1) := by decide +kernel
theorem dX4_goalOf_67 : decode cX4_goalOf 67 = .ok (.lcmp, 1) := by decide +kernel
theorem dX4_goalOf_68 : decode cX4_goalOf 68 = .ok (.ifCond .eq 91, 3) := by decide +kernel
theorem dX4_goalOf_71 : decode cX4_goalOf 71 = .ok (.iload 6, 2) := by decide +kernel
theorem dX4_goalOf_73 : decode cX4_goalOf 73 = .ok (.ireturn, 1) := by decide +kernel
theorem dX4_goalOf_74 : decode cX4_goalOf 74 = .ok (.iload 5, 2) := by decide +kernel
theorem dX4_goalOf_76 : decode cX4_goalOf 76 = .ok (.iconst 2, 1) := by decide +kernel
theorem dX4_goalOf_77 : decode cX4_goalOf 77 = .ok (.if_icmp .ne 13, 3) := by decide +kernel
theorem dX4_goalOf_80 : decode cX4_goalOf 80 = .ok (.aload_n 0, 1) := by decide +kernel
theorem dX4_goalOf_81 : decode cX4_goalOf 81 = .ok (.iload 6, 2) := by decide +kernel
theorem dX4_goalOf_83 : decode cX4_goalOf 83 = .ok (.i2l, 1) := by decide +kernel
theorem dX4_goalOf_84 : decode cX4_goalOf 84 = .ok (.invokevirtual 36, 3) := by decide +kernel
theorem dX4_goalOf_87 : decode cX4_goalOf 87 = .ok (.goto 72, 3) := by decide +kernel
theorem dX4_goalOf_90 : decode cX4_goalOf 90 = .ok (.iload 5, 2) := by decide +kernel
theorem dX4_goalOf_92 : decode cX4_goalOf 92 = .ok (.iconst 3, 1) := by decide +kernel
theorem dX4_goalOf_93 : decode cX4_goalOf 93 = .ok (.if_icmp .ne 18, 3) := by decide +kernel
theorem dX4_goalOf_96 : decode cX4_goalOf 96 = .ok (.aload_n 0, 1) := by decide +kernel
theorem dX4_goalOf_97 : decode cX4_goalOf 97 = .ok (.aload_n 2, 1) := by decide +kernel
theorem dX4_goalOf_98 : decode cX4_goalOf 98 = .ok (.aload_n 1, 1) := by decide +kernel
theorem dX4_goalOf_99 : decode cX4_goalOf 99 = .ok (.iload_n 3, 1) := by decide +kernel
theorem dX4_goalOf_100 : decode cX4_goalOf 100 = .ok (.iload 6, 2) := by decide +kernel
theorem dX4_goalOf_102 : decode cX4_goalOf 102 = .ok (.invokevirtual 40, 3) := by decide +kernel
theorem dX4_goalOf_105 : decode cX4_goalOf 105 = .ok (.invokevirtual 36, 3) := by decide +kernel
theorem dX4_goalOf_108 : decode cX4_goalOf 108 = .ok (.goto 51, 3) := by decide +kernel
theorem dX4_goalOf_111 : decode cX4_goalOf 111 = .ok (.iload 5, 2) := by decide +kernel
theorem dX4_goalOf_113 : decode cX4_goalOf 113 = .ok (.iconst 4, 1) := by decide +kernel
theorem dX4_goalOf_114 : decode cX4_goalOf 114 = .ok (.if_icmp .ne 24, 3) := by decide +kernel
theorem dX4_goalOf_117 : decode cX4_goalOf 117 = .ok (.aload_n 0, 1) := by decide +kernel
theorem dX4_goalOf_118 : decode cX4_goalOf 118 = .ok (.aload_n 0, 1) := by decide +kernel
theorem dX4_goalOf_119 : decode cX4_goalOf 119 = .ok (.invokevirtual 32, 3) := by decide +kernel
theorem dX4_goalOf_122 : decode cX4_goalOf 122 = .ok (.lconst 0, 1) := by decide +kernel
theorem dX4_goalOf_123 : decode cX4_goalOf 123 = .ok (.lcmp, 1) := by decide +kernel
theorem dX4_goalOf_124 : decode cX4_goalOf 124 = .ok (.ifCond .ne 7, 3) := by decide +kernel
theorem dX4_goalOf_127 : decode cX4_goalOf 127 = .ok (.lconst 1, 1) := by decide +kernel
theorem dX4_goalOf_128 : decode cX4_goalOf 128 = .ok (.goto 4, 3) := by decide +kernel
theorem dX4_goalOf_131 : decode cX4_goalOf 131 = .ok (.lconst 0, 1) := by decide +kernel
theorem dX4_goalOf_132 : decode cX4_goalOf 132 = .ok (.invokevirtual 36, 3) := by decide +kernel
theorem dX4_goalOf_135 : decode cX4_goalOf 135 = .ok (.goto 24, 3) := by decide +kernel
theorem dX4_goalOf_138 : decode cX4_goalOf 138 = .ok (.aload_n 0, 1) := by decide +kernel
theorem dX4_goalOf_139 : decode cX4_goalOf 139 = .ok (.invokevirtual 32, 3) := by decide +kernel
theorem dX4_goalOf_142 : decode cX4_goalOf 142 = .ok (.lstore 7, 2) := by decide +kernel
theorem dX4_goalOf_144 : decode cX4_goalOf 144 = .ok (.aload_n 0, 1) := by decide +kernel
theorem dX4_goalOf_145 : decode cX4_goalOf 145 = .ok (.iload 5, 2) := by decide +kernel
theorem dX4_goalOf_147 : decode cX4_goalOf 147 = .ok (.aload_n 0, 1) := by decide +kernel
theorem dX4_goalOf_148 : decode cX4_goalOf 148 = .ok (.invokevirtual 32, 3) := by decide +kernel
theorem dX4_goalOf_151 : decode cX4_goalOf 151 = .ok (.lload 7, 2) := by decide +kernel
theorem dX4_goalOf_153 : decode cX4_goalOf 153 = .ok (.invokestatic 46, 3) := by decide +kernel
theorem dX4_goalOf_156 : decode cX4_goalOf 156 = .ok (.invokevirtual 36, 3) := by decide +kernel
theorem dX4_goalOf_159 : decode cX4_goalOf 159 = .ok (.iinc 4 1, 3) := by decide +kernel
theorem dX4_goalOf_162 : decode cX4_goalOf 162 = .ok (.goto (-154), 3) := by decide +kernel
theorem dX4_goalOf_165 : decode cX4_goalOf 165 = .ok (.iconst (-1), 1) := by decide +kernel
theorem dX4_goalOf_166 : decode cX4_goalOf 166 = .ok (.ireturn, 1) := by decide +kernel
theorem dX4_push_0 : decode cX4_push 0 = .ok (.aload_n 0, 1) := by decide +kernel
theorem dX4_push_1 : decode cX4_push 1 = .ok (.getfield 23, 3) := by decide +kernel
theorem dX4_push_4 : decode cX4_push 4 = .ok (.ifCond .lt 32, 3) := by decide +kernel
theorem dX4_push_7 : decode cX4_push 7 = .ok (.aload_n 0, 1) := by decide +kernel
theorem dX4_push_8 : decode cX4_push 8 = .ok (.getfield 23, 3) := by decide +kernel
theorem dX4_push_11 : decode cX4_push 11 = .ok (.bipush 60, 2) := by decide +kernel
theorem dX4_push_13 : decode cX4_push 13 = .ok (.if_icmp .ge 23, 3) := by decide +kernel
theorem dX4_push_16 : decode cX4_push 16 = .ok (.aload_n 0, 1) := by decide +kernel
theorem dX4_push_17 : decode cX4_push 17 = .ok (.getfield 15, 3) := by decide +kernel
theorem dX4_push_20 : decode cX4_push 20 = .ok (.aload_n 0, 1) := by decide +kernel
theorem dX4_push_21 : decode cX4_push 21 = .ok (.getfield 23, 3) := by decide +kernel
theorem dX4_push_24 : decode cX4_push 24 = .ok (.lload_n 1, 1) := by decide +kernel
theorem dX4_push_25 : decode cX4_push 25 = .ok (.lastore, 1) := by decide +kernel
theorem dX4_push_26 : decode cX4_push 26 = .ok (.aload_n 0, 1) := by decide +kernel
theorem dX4_push_27 : decode cX4_push 27 = .ok (.dup, 1) := by decide +kernel
theorem dX4_push_28 : decode cX4_push 28 = .ok (.getfield 23, 3) := by decide +kernel
theorem dX4_push_31 : decode cX4_push 31 = .ok (.iconst 1, 1) := by decide +kernel
theorem dX4_push_32 : decode cX4_push 32 = .ok (.iadd, 1) := by decide +kernel
theorem dX4_push_33 : decode cX4_push 33 = .ok (.putfield 23, 3) := by decide +kernel
theorem dX4_push_36 : decode cX4_push 36 = .ok (.return_, 1) := by decide +kernel
theorem dX4_pop_0 : decode cX4_pop 0 = .ok (.aload_n 0, 1) := by decide +kernel
theorem dX4_pop_1 : decode cX4_pop 1 = .ok (.getfield 23, 3) := by decide +kernel
theorem dX4_pop_4 : decode cX4_pop 4 = .ok (.ifCond .le 12, 3) := by decide +kernel
theorem dX4_pop_7 : decode cX4_pop 7 = .ok (.aload_n 0, 1) := by decide +kernel
theorem dX4_pop_8 : decode cX4_pop 8 = .ok (.getfield 23, 3) := by decide +kernel
theorem dX4_pop_11 : decode cX4_pop 11 = .ok (.bipush 60, 2) := by decide +kernel
theorem dX4_pop_13 : decode cX4_pop 13 = .ok (.if_icmp .le 5, 3) := by decide +kernel
theorem dX4_pop_16 : decode cX4_pop 16 = .ok (.lconst 0, 1) := by decide +kernel
theorem dX4_pop_17 : decode cX4_pop 17 = .ok (.lreturn, 1) := by decide +kernel
theorem dX4_pop_18 : decode cX4_pop 18 = .ok (.aload_n 0, 1) := by decide +kernel
theorem dX4_pop_19 : decode cX4_pop 19 = .ok (.dup, 1) := by decide +kernel
theorem dX4_pop_20 : decode cX4_pop 20 = .ok (.getfield 23, 3) := by decide +kernel
theorem dX4_pop_23 : decode cX4_pop 23 = .ok (.iconst 1, 1) := by decide +kernel
theorem dX4_pop_24 : decode cX4_pop 24 = .ok (.isub, 1) := by decide +kernel
theorem dX4_pop_25 : decode cX4_pop 25 = .ok (.putfield 23, 3) := by decide +kernel
theorem dX4_pop_28 : decode cX4_pop 28 = .ok (.aload_n 0, 1) := by decide +kernel
theorem dX4_pop_29 : decode cX4_pop 29 = .ok (.getfield 15, 3) := by decide +kernel
theorem dX4_pop_32 : decode cX4_pop 32 = .ok (.aload_n 0, 1) := by decide +kernel
theorem dX4_pop_33 : decode cX4_pop 33 = .ok (.getfield 23, 3) := by decide +kernel
theorem dX4_pop_36 : decode cX4_pop 36 = .ok (.laload, 1) := by decide +kernel
theorem dX4_pop_37 : decode cX4_pop 37 = .ok (.lreturn, 1) := by decide +kernel
theorem dX4_joined_0 : decode cX4_joined 0 = .ok (.iload_n 0, 1) := by decide +kernel
theorem dX4_joined_1 : decode cX4_joined 1 = .ok (.tableswitch 57 7 10 #[31, 35, 39, 43], 31) := by decide +kernel
theorem dX4_joined_32 : decode cX4_joined 32 = .ok (.lload_n 1, 1) := by decide +kernel
theorem dX4_joined_33 : decode cX4_joined 33 = .ok (.lload_n 3, 1) := by decide +kernel
theorem dX4_joined_34 : decode cX4_joined 34 = .ok (.ladd, 1) := by decide +kernel
theorem dX4_joined_35 : decode cX4_joined 35 = .ok (.lreturn, 1) := by decide +kernel
theorem dX4_joined_36 : decode cX4_joined 36 = .ok (.lload_n 1, 1) := by decide +kernel
theorem dX4_joined_37 : decode cX4_joined 37 = .ok (.lload_n 3, 1) := by decide +kernel
theorem dX4_joined_38 : decode cX4_joined 38 = .ok (.lsub, 1) := by decide +kernel
theorem dX4_joined_39 : decode cX4_joined 39 = .ok (.lreturn, 1) := by decide +kernel
theorem dX4_joined_40 : decode cX4_joined 40 = .ok (.lload_n 1, 1) := by decide +kernel
theorem dX4_joined_41 : decode cX4_joined 41 = .ok (.lload_n 3, 1) := by decide +kernel
theorem dX4_joined_42 : decode cX4_joined 42 = .ok (.lmul, 1) := by decide +kernel
theorem dX4_joined_43 : decode cX4_joined 43 = .ok (.lreturn, 1) := by decide +kernel
theorem dX4_joined_44 : decode cX4_joined 44 = .ok (.lload_n 3, 1) := by decide +kernel
theorem dX4_joined_45 : decode cX4_joined 45 = .ok (.lconst 0, 1) := by decide +kernel
theorem dX4_joined_46 : decode cX4_joined 46 = .ok (.lcmp, 1) := by decide +kernel
theorem dX4_joined_47 : decode cX4_joined 47 = .ok (.ifCond .ne 7, 3) := by decide +kernel
theorem dX4_joined_50 : decode cX4_joined 50 = .ok (.lconst 0, 1) := by decide +kernel
theorem dX4_joined_51 : decode cX4_joined 51 = .ok (.goto 6, 3) := by decide +kernel
theorem dX4_joined_54 : decode cX4_joined 54 = .ok (.lload_n 1, 1) := by decide +kernel
theorem dX4_joined_55 : decode cX4_joined 55 = .ok (.lload_n 3, 1) := by decide +kernel
theorem dX4_joined_56 : decode cX4_joined 56 = .ok (.ldiv, 1) := by decide +kernel
theorem dX4_joined_57 : decode cX4_joined 57 = .ok (.lreturn, 1) := by decide +kernel
theorem dX4_joined_58 : decode cX4_joined 58 = .ok (.iload_n 0, 1) := by decide +kernel
theorem dX4_joined_59 : decode cX4_joined 59 = .ok (.lload_n 1, 1) := by decide +kernel
theorem dX4_joined_60 : decode cX4_joined 60 = .ok (.lload_n 3, 1) := by decide +kernel
theorem dX4_joined_61 : decode cX4_joined 61 = .ok (.invokestatic 50, 3) := by decide +kernel
theorem dX4_joined_64 : decode cX4_joined 64 = .ok (.ifCond .eq 7, 3) := by decide +kernel
theorem dX4_joined_67 : decode cX4_joined 67 = .ok (.lconst 1, 1) := by decide +kernel
theorem dX4_joined_68 : decode cX4_joined 68 = .ok (.goto 4, 3) := by decide +kernel
theorem dX4_joined_71 : decode cX4_joined 71 = .ok (.lconst 0, 1) := by decide +kernel
theorem dX4_joined_72 : decode cX4_joined 72 = .ok (.lreturn, 1) := by decide +kernel
theorem dX4_isSo_0 : decode cX4_isSo 0 = .ok (.iload_n 0, 1) := by decide +kernel
theorem dX4_isSo_1 : decode cX4_isSo 1 = .ok (.tableswitch 139 5 14 #[55, 73, 139, 139, 139, 139, 91, 103, 115, 127], 55) := by decide +kernel
theorem dX4_isSo_56 : decode cX4_isSo 56 = .ok (.lload_n 1, 1) := by decide +kernel
theorem dX4_isSo_57 : decode cX4_isSo 57 = .ok (.lconst 0, 1) := by decide +kernel
theorem dX4_isSo_58 : decode cX4_isSo 58 = .ok (.lcmp, 1) := by decide +kernel
theorem dX4_isSo_59 : decode cX4_isSo 59 = .ok (.ifCond .eq 13, 3) := by decide +kernel
theorem dX4_isSo_62 : decode cX4_isSo 62 = .ok (.lload_n 3, 1) := by decide +kernel
theorem dX4_isSo_63 : decode cX4_isSo 63 = .ok (.lconst 0, 1) := by decide +kernel
theorem dX4_isSo_64 : decode cX4_isSo 64 = .ok (.lcmp, 1) := by decide +kernel
theorem dX4_isSo_65 : decode cX4_isSo 65 = .ok (.ifCond .eq 7, 3) := by decide +kernel
theorem dX4_isSo_68 : decode cX4_isSo 68 = .ok (.iconst 1, 1) := by decide +kernel
theorem dX4_isSo_69 : decode cX4_isSo 69 = .ok (.goto 4, 3) := by decide +kernel
theorem dX4_isSo_72 : decode cX4_isSo 72 = .ok (.iconst 0, 1) := by decide +kernel
theorem dX4_isSo_73 : decode cX4_isSo 73 = .ok (.ireturn, 1) := by decide +kernel
theorem dX4_isSo_74 : decode cX4_isSo 74 = .ok (.lload_n 1, 1) := by decide +kernel
theorem dX4_isSo_75 : decode cX4_isSo 75 = .ok (.lconst 0, 1) := by decide +kernel
theorem dX4_isSo_76 : decode cX4_isSo 76 = .ok (.lcmp, 1) := by decide +kernel
theorem dX4_isSo_77 : decode cX4_isSo 77 = .ok (.ifCond .ne 9, 3) := by decide +kernel
theorem dX4_isSo_80 : decode cX4_isSo 80 = .ok (.lload_n 3, 1) := by decide +kernel
theorem dX4_isSo_81 : decode cX4_isSo 81 = .ok (.lconst 0, 1) := by decide +kernel
theorem dX4_isSo_82 : decode cX4_isSo 82 = .ok (.lcmp, 1) := by decide +kernel
theorem dX4_isSo_83 : decode cX4_isSo 83 = .ok (.ifCond .eq 7, 3) := by decide +kernel
theorem dX4_isSo_86 : decode cX4_isSo 86 = .ok (.iconst 1, 1) := by decide +kernel
theorem dX4_isSo_87 : decode cX4_isSo 87 = .ok (.goto 4, 3) := by decide +kernel
theorem dX4_isSo_90 : decode cX4_isSo 90 = .ok (.iconst 0, 1) := by decide +kernel
theorem dX4_isSo_91 : decode cX4_isSo 91 = .ok (.ireturn, 1) := by decide +kernel
theorem dX4_isSo_92 : decode cX4_isSo 92 = .ok (.lload_n 1, 1) := by decide +kernel
theorem dX4_isSo_93 : decode cX4_isSo 93 = .ok (.lload_n 3, 1) := by decide +kernel
theorem dX4_isSo_94 : decode cX4_isSo 94 = .ok (.lcmp, 1) := by decide +kernel
theorem dX4_isSo_95 : decode cX4_isSo 95 = .ok (.ifCond .ge 7, 3) := by decide +kernel
theorem dX4_isSo_98 : decode cX4_isSo 98 = .ok (.iconst 1, 1) := by decide +kernel
theorem dX4_isSo_99 : decode cX4_isSo 99 = .ok (.goto 4, 3) := by decide +kernel
theorem dX4_isSo_102 : decode cX4_isSo 102 = .ok (.iconst 0, 1) := by decide +kernel
theorem dX4_isSo_103 : decode cX4_isSo 103 = .ok (.ireturn, 1) := by decide +kernel
theorem dX4_isSo_104 : decode cX4_isSo 104 = .ok (.lload_n 1, 1) := by decide +kernel
theorem dX4_isSo_105 : decode cX4_isSo 105 = .ok (.lload_n 3, 1) := by decide +kernel
theorem dX4_isSo_106 : decode cX4_isSo 106 = .ok (.lcmp, 1) := by decide +kernel
theorem dX4_isSo_107 : decode cX4_isSo 107 = .ok (.ifCond .gt 7, 3) := by decide +kernel
theorem dX4_isSo_110 : decode cX4_isSo 110 = .ok (.iconst 1, 1) := by decide +kernel
theorem dX4_isSo_111 : decode cX4_isSo 111 = .ok (.goto 4, 3) := by decide +kernel
theorem dX4_isSo_114 : decode cX4_isSo 114 = .ok (.iconst 0, 1) := by decide +kernel
theorem dX4_isSo_115 : decode cX4_isSo 115 = .ok (.ireturn, 1) := by decide +kernel
theorem dX4_isSo_116 : decode cX4_isSo 116 = .ok (.lload_n 1, 1) := by decide +kernel
theorem dX4_isSo_117 : decode cX4_isSo 117 = .ok (.lload_n 3, 1) := by decide +kernel
theorem dX4_isSo_118 : decode cX4_isSo 118 = .ok (.lcmp, 1) := by decide +kernel
theorem dX4_isSo_119 : decode cX4_isSo 119 = .ok (.ifCond .ne 7, 3) := by decide +kernel
theorem dX4_isSo_122 : decode cX4_isSo 122 = .ok (.iconst 1, 1) := by decide +kernel
theorem dX4_isSo_123 : decode cX4_isSo 123 = .ok (.goto 4, 3) := by decide +kernel
theorem dX4_isSo_126 : decode cX4_isSo 126 = .ok (.iconst 0, 1) := by decide +kernel
theorem dX4_isSo_127 : decode cX4_isSo 127 = .ok (.ireturn, 1) := by decide +kernel
theorem dX4_isSo_128 : decode cX4_isSo 128 = .ok (.lload_n 1, 1) := by decide +kernel
theorem dX4_isSo_129 : decode cX4_isSo 129 = .ok (.lload_n 3, 1) := by decide +kernel
theorem dX4_isSo_130 : decode cX4_isSo 130 = .ok (.lcmp, 1) := by decide +kernel
theorem dX4_isSo_131 : decode cX4_isSo 131 = .ok (.ifCond .lt 7, 3) := by decide +kernel
theorem dX4_isSo_134 : decode cX4_isSo 134 = .ok (.iconst 1, 1) := by decide +kernel
theorem dX4_isSo_135 : decode cX4_isSo 135 = .ok (.goto 4, 3) := by decide +kernel
theorem dX4_isSo_138 : decode cX4_isSo 138 = .ok (.iconst 0, 1) := by decide +kernel
theorem dX4_isSo_139 : decode cX4_isSo 139 = .ok (.ireturn, 1) := by decide +kernel
theorem dX4_isSo_140 : decode cX4_isSo 140 = .ok (.lload_n 1, 1) := by decide +kernel
theorem dX4_isSo_141 : decode cX4_isSo 141 = .ok (.lload_n 3, 1) := by decide +kernel
theorem dX4_isSo_142 : decode cX4_isSo 142 = .ok (.lcmp, 1) := by decide +kernel
theorem dX4_isSo_143 : decode cX4_isSo 143 = .ok (.ifCond .le 7, 3) := by decide +kernel
theorem dX4_isSo_146 : decode cX4_isSo 146 = .ok (.iconst 1, 1) := by decide +kernel
theorem dX4_isSo_147 : decode cX4_isSo 147 = .ok (.goto 4, 3) := by decide +kernel
theorem dX4_isSo_150 : decode cX4_isSo 150 = .ok (.iconst 0, 1) := by decide +kernel
theorem dX4_isSo_151 : decode cX4_isSo 151 = .ok (.ireturn, 1) := by decide +kernel
theorem dX5_init_0 : decode cX5_init 0 = .ok (.aload_n 0, 1) := by decide +kernel
theorem dX5_init_1 : decode cX5_init 1 = .ok (.invokespecial 3, 3) := by decide +kernel
theorem dX5_init_4 : decode cX5_init 4 = .ok (.aload_n 0, 1) := by decide +kernel
theorem dX5_init_5 : decode cX5_init 5 = .ok (.bipush 64, 2) := by decide +kernel
theorem dX5_init_7 : decode cX5_init 7 = .ok (.newarray .int, 2) := by decide +kernel
theorem dX5_init_9 : decode cX5_init 9 = .ok (.putfield 9, 3) := by decide +kernel
theorem dX5_init_12 : decode cX5_init 12 = .ok (.aload_n 0, 1) := by decide +kernel
theorem dX5_init_13 : decode cX5_init 13 = .ok (.new 15, 3) := by decide +kernel
theorem dX5_init_16 : decode cX5_init 16 = .ok (.dup, 1) := by decide +kernel
theorem dX5_init_17 : decode cX5_init 17 = .ok (.invokespecial 17, 3) := by decide +kernel
theorem dX5_init_20 : decode cX5_init 20 = .ok (.putfield 18, 3) := by decide +kernel
theorem dX5_init_23 : decode cX5_init 23 = .ok (.aload_n 0, 1) := by decide +kernel
theorem dX5_init_24 : decode cX5_init 24 = .ok (.iconst 0, 1) := by decide +kernel
theorem dX5_init_25 : decode cX5_init 25 = .ok (.putfield 22, 3) := by decide +kernel
theorem dX5_init_28 : decode cX5_init 28 = .ok (.aload_n 0, 1) := by decide +kernel
theorem dX5_init_29 : decode cX5_init 29 = .ok (.iconst 0, 1) := by decide +kernel
theorem dX5_init_30 : decode cX5_init 30 = .ok (.putfield 26, 3) := by decide +kernel
theorem dX5_init_33 : decode cX5_init 33 = .ok (.aload_n 0, 1) := by decide +kernel
theorem dX5_init_34 : decode cX5_init 34 = .ok (.iconst 0, 1) := by decide +kernel
theorem dX5_init_35 : decode cX5_init 35 = .ok (.putfield 29, 3) := by decide +kernel
theorem dX5_init_38 : decode cX5_init 38 = .ok (.aload_n 0, 1) := by decide +kernel
theorem dX5_init_39 : decode cX5_init 39 = .ok (.iconst 0, 1) := by decide +kernel
theorem dX5_init_40 : decode cX5_init 40 = .ok (.putfield 32, 3) := by decide +kernel
theorem dX5_init_43 : decode cX5_init 43 = .ok (.aload_n 0, 1) := by decide +kernel
theorem dX5_init_44 : decode cX5_init 44 = .ok (.aload_n 1, 1) := by decide +kernel
theorem dX5_init_45 : decode cX5_init 45 = .ok (.putfield 35, 3) := by decide +kernel
theorem dX5_init_48 : decode cX5_init 48 = .ok (.return_, 1) := by decide +kernel
theorem dX5_read_0 : decode cX5_read 0 = .ok (.aload_n 0, 1) := by decide +kernel
theorem dX5_read_1 : decode cX5_read 1 = .ok (.getfield 18, 3) := by decide +kernel
theorem dX5_read_4 : decode cX5_read 4 = .ok (.iconst 0, 1) := by decide +kernel
theorem dX5_read_5 : decode cX5_read 5 = .ok (.putfield 39, 3) := by decide +kernel
theorem dX5_read_8 : decode cX5_read 8 = .ok (.aload_n 0, 1) := by decide +kernel
theorem dX5_read_9 : decode cX5_read 9 = .ok (.iconst 0, 1) := by decide +kernel
theorem dX5_read_10 : decode cX5_read 10 = .ok (.putfield 22, 3) := by decide +kernel
theorem dX5_read_13 : decode cX5_read 13 = .ok (.aload_n 0, 1) := by decide +kernel
theorem dX5_read_14 : decode cX5_read 14 = .ok (.getfield 35, 3) := by decide +kernel
theorem dX5_read_17 : decode cX5_read 17 = .ok (.invokevirtual 42, 3) := by decide +kernel
theorem dX5_read_20 : decode cX5_read 20 = .ok (.iconst 0, 1) := by decide +kernel
theorem dX5_read_21 : decode cX5_read 21 = .ok (.istore_n 1, 1) := by decide +kernel
theorem dX5_read_22 : decode cX5_read 22 = .ok (.iload_n 1, 1) := by decide +kernel
theorem dX5_read_23 : decode cX5_read 23 = .ok (.bipush 12, 2) := by decide +kernel
theorem dX5_read_25 : decode cX5_read 25 = .ok (.if_icmp .gt 59, 3) := by decide +kernel
theorem dX5_read_28 : decode cX5_read 28 = .ok (.aload_n 0, 1) := by decide +kernel
theorem dX5_read_29 : decode cX5_read 29 = .ok (.iload_n 1, 1) := by decide +kernel
theorem dX5_read_30 : decode cX5_read 30 = .ok (.invokevirtual 47, 3) := by decide +kernel
theorem dX5_read_33 : decode cX5_read 33 = .ok (.ifCond .ne 5, 3) := by decide +kernel
theorem dX5_read_36 : decode cX5_read 36 = .ok (.iconst 0, 1) := by decide +kernel
theorem dX5_read_37 : decode cX5_read 37 = .ok (.ireturn, 1) := by decide +kernel
theorem dX5_read_38 : decode cX5_read 38 = .ok (.aload_n 0, 1) := by decide +kernel
theorem dX5_read_39 : decode cX5_read 39 = .ok (.getfield 35, 3) := by decide +kernel
theorem dX5_read_42 : decode cX5_read 42 = .ok (.invokevirtual 51, 3) := by decide +kernel
theorem dX5_read_45 : decode cX5_read 45 = .ok (.ifCond .eq 5, 3) := by decide +kernel
theorem dX5_read_48 : decode cX5_read 48 = .ok (.iconst 1, 1) := by decide +kernel
theorem dX5_read_49 : decode cX5_read 49 = .ok (.ireturn, 1) := by decide +kernel
theorem dX5_read_50 : decode cX5_read 50 = .ok (.aload_n 0, 1) := by decide +kernel
theorem dX5_read_51 : decode cX5_read 51 = .ok (.getfield 35, 3) := by decide +kernel
theorem dX5_read_54 : decode cX5_read 54 = .ok (.bipush 59, 2) := by decide +kernel
theorem dX5_read_56 : decode cX5_read 56 = .ok (.invokevirtual 55, 3) := by decide +kernel
theorem dX5_read_59 : decode cX5_read 59 = .ok (.ifCond .ne 19, 3) := by decide +kernel
theorem dX5_read_62 : decode cX5_read 62 = .ok (.aload_n 0, 1) := by decide +kernel
theorem dX5_read_63 : decode cX5_read 63 = .ok (.getfield 35, 3) := by decide +kernel
theorem dX5_read_66 : decode cX5_read 66 = .ok (.aload_n 0, 1) := by decide +kernel
theorem dX5_read_67 : decode cX5_read 67 = .ok (.getfield 35, 3) := by decide +kernel
theorem dX5_read_70 : decode cX5_read 70 = .ok (.getfield 59, 3) := by decide +kernel
theorem dX5_read_73 : decode cX5_read 73 = .ok (.iconst 0, 1) := by decide +kernel
theorem dX5_read_74 : decode cX5_read 74 = .ok (.invokevirtual 62, 3) := by decide +kernel
theorem dX5_read_77 : decode cX5_read 77 = .ok (.ireturn, 1) := by decide +kernel
theorem dX5_read_78 : decode cX5_read 78 = .ok (.iinc 1 1, 3) := by decide +kernel
theorem dX5_read_81 : decode cX5_read 81 = .ok (.goto (-59), 3) := by decide +kernel
theorem dX5_read_84 : decode cX5_read 84 = .ok (.iconst 0, 1) := by decide +kernel
theorem dX5_read_85 : decode cX5_read 85 = .ok (.ireturn, 1) := by decide +kernel
theorem dX5_readClause_0 : decode cX5_readClause 0 = .ok (.aload_n 0, 1) := by decide +kernel
theorem dX5_readClause_1 : decode cX5_readClause 1 = .ok (.getfield 35, 3) := by decide +kernel
theorem dX5_readClause_4 : decode cX5_readClause 4 = .ok (.ldc 66, 2) := by decide +kernel
theorem dX5_readClause_6 : decode cX5_readClause 6 = .ok (.invokevirtual 68, 3) := by decide +kernel
theorem dX5_readClause_9 : decode cX5_readClause 9 = .ok (.ifCond .ne 19, 3) := by decide +kernel
theorem dX5_readClause_12 : decode cX5_readClause 12 = .ok (.aload_n 0, 1) := by decide +kernel
theorem dX5_readClause_13 : decode cX5_readClause 13 = .ok (.getfield 35, 3) := by decide +kernel
theorem dX5_readClause_16 : decode cX5_readClause 16 = .ok (.aload_n 0, 1) := by decide +kernel
theorem dX5_readClause_17 : decode cX5_readClause 17 = .ok (.getfield 35, 3) := by decide +kernel
theorem dX5_readClause_20 : decode cX5_readClause 20 = .ok (.getfield 59, 3) := by decide +kernel
theorem dX5_readClause_23 : decode cX5_readClause 23 = .ok (.iconst 0, 1) := by decide +kernel
theorem dX5_readClause_24 : decode cX5_readClause 24 = .ok (.invokevirtual 62, 3) := by decide +kernel
theorem dX5_readClause_27 : decode cX5_readClause 27 = .ok (.ireturn, 1) := by decide +kernel
theorem dX5_readClause_28 : decode cX5_readClause 28 = .ok (.iload_n 1, 1) := by decide +kernel
theorem dX5_readClause_29 : decode cX5_readClause 29 = .ok (.bipush 12, 2) := by decide +kernel
theorem dX5_readClause_31 : decode cX5_readClause 31 = .ok (.if_icmp .lt 19, 3) := by decide +kernel
theorem dX5_readClause_34 : decode cX5_readClause 34 = .ok (.aload_n 0, 1) := by decide +kernel
theorem dX5_readClause_35 : decode cX5_readClause 35 = .ok (.getfield 35, 3) := by decide +kernel
theorem dX5_readClause_38 : decode cX5_readClause 38 = .ok (.aload_n 0, 1) := by decide +kernel
theorem dX5_readClause_39 : decode cX5_readClause 39 = .ok (.getfield 35, 3) := by decide +kernel
theorem dX5_readClause_42 : decode cX5_readClause 42 = .ok (.getfield 72, 3) := by decide +kernel
theorem dX5_readClause_45 : decode cX5_readClause 45 = .ok (.iconst 4, 1) := by decide +kernel
theorem dX5_readClause_46 : decode cX5_readClause 46 = .ok (.invokevirtual 62, 3) := by decide +kernel
theorem dX5_readClause_49 : decode cX5_readClause 49 = .ok (.ireturn, 1) := by decide +kernel
theorem dX5_readClause_50 : decode cX5_readClause 50 = .ok (.aload_n 0, 1) := by decide +kernel
theorem dX5_readClause_51 : decode cX5_readClause 51 = .ok (.getfield 35, 3) := by decide +kernel
theorem dX5_readClause_54 : decode cX5_readClause 54 = .ok (.iconst 0, 1) := by decide +kernel
theorem dX5_readClause_55 : decode cX5_readClause 55 = .ok (.bipush 9, 2) := by decide +kernel
theorem dX5_readClause_57 : decode cX5_readClause 57 = .ok (.invokevirtual 75, 3) := by decide +kernel
theorem dX5_readClause_60 : decode cX5_readClause 60 = .ok (.istore_n 2, 1) := by decide +kernel
theorem dX5_readClause_61 : decode cX5_readClause 61 = .ok (.iload_n 2, 1) := by decide +kernel
theorem dX5_readClause_62 : decode cX5_readClause 62 = .ok (.ifCond .ge 5, 3) := by decide +kernel
theorem dX5_readClause_65 : decode cX5_readClause 65 = .ok (.iconst 0, 1) := by decide +kernel
theorem dX5_readClause_66 : decode cX5_readClause 66 = .ok (.ireturn, 1) := by decide +kernel
theorem dX5_readClause_67 : decode cX5_readClause 67 = .ok (.aload_n 0, 1) := by decide +kernel
theorem dX5_readClause_68 : decode cX5_readClause 68 = .ok (.getfield 35, 3) := by decide +kernel
theorem dX5_readClause_71 : decode cX5_readClause 71 = .ok (.ldc 79, 2) := by decide +kernel
theorem dX5_readClause_73 : decode cX5_readClause 73 = .ok (.invokevirtual 68, 3) := by decide +kernel
theorem dX5_readClause_76 : decode cX5_readClause 76 = .ok (.istore_n 3, 1) := by decide +kernel
theorem dX5_readClause_77 : decode cX5_readClause 77 = .ok (.iload_n 3, 1) := by decide +kernel
theorem dX5_readClause_78 : decode cX5_readClause 78 = .ok (.ifCond .eq 12, 3) := by decide +kernel
theorem dX5_readClause_81 : decode cX5_readClause 81 = .ok (.aload_n 0, 1) := by decide +kernel
theorem dX5_readClause_82 : decode cX5_readClause 82 = .ok (.invokevirtual 81, 3) := by decide +kernel
theorem dX5_readClause_85 : decode cX5_readClause 85 = .ok (.ifCond .ne 5, 3) := by decide +kernel
theorem dX5_readClause_88 : decode cX5_readClause 88 = .ok (.iconst 0, 1) := by decide +kernel
theorem dX5_readClause_89 : decode cX5_readClause 89 = .ok (.ireturn, 1) := by decide +kernel
theorem dX5_readClause_90 : decode cX5_readClause 90 = .ok (.aload_n 0, 1) := by decide +kernel
theorem dX5_readClause_91 : decode cX5_readClause 91 = .ok (.getfield 18, 3) := by decide +kernel
theorem dX5_readClause_94 : decode cX5_readClause 94 = .ok (.iload_n 3, 1) := by decide +kernel
theorem dX5_readClause_95 : decode cX5_readClause 95 = .ok (.ifCond .eq 7, 3) := by decide +kernel
theorem dX5_readClause_98 : decode cX5_readClause 98 = .ok (.iconst 1, 1) := by decide +kernel
theorem dX5_readClause_99 : decode cX5_readClause 99 = .ok (.goto 4, 3) := by decide +kernel
theorem dX5_readClause_102 : decode cX5_readClause 102 = .ok (.iconst 0, 1) := by decide +kernel
theorem dX5_readClause_103 : decode cX5_readClause 103 = .ok (.iload_n 2, 1) := by decide +kernel
theorem dX5_readClause_104 : decode cX5_readClause 104 = .ok (.invokevirtual 84, 3) := by decide +kernel
theorem dX5_readClause_107 : decode cX5_readClause 107 = .ok (.iconst 1, 1) := by decide +kernel
theorem dX5_readClause_108 : decode cX5_readClause 108 = .ok (.ireturn, 1) := by decide +kernel
theorem dX5_readTest_0 : decode cX5_readTest 0 = .ok (.aload_n 0, 1) := by decide +kernel
theorem dX5_readTest_1 : decode cX5_readTest 1 = .ok (.iconst 0, 1) := by decide +kernel
theorem dX5_readTest_2 : decode cX5_readTest 2 = .ok (.putfield 26, 3) := by decide +kernel
theorem dX5_readTest_5 : decode cX5_readTest 5 = .ok (.aload_n 0, 1) := by decide +kernel
theorem dX5_readTest_6 : decode cX5_readTest 6 = .ok (.iconst 0, 1) := by decide +kernel
theorem dX5_readTest_7 : decode cX5_readTest 7 = .ok (.putfield 29, 3) := by decide +kernel
theorem dX5_readTest_10 : decode cX5_readTest 10 = .ok (.aload_n 0, 1) := by decide +kernel
theorem dX5_readTest_11 : decode cX5_readTest 11 = .ok (.iconst 0, 1) := by decide +kernel
theorem dX5_readTest_12 : decode cX5_readTest 12 = .ok (.putfield 32, 3) := by decide +kernel
theorem dX5_readTest_15 : decode cX5_readTest 15 = .ok (.iconst 1, 1) := by decide +kernel
theorem dX5_readTest_16 : decode cX5_readTest 16 = .ok (.istore_n 1, 1) := by decide +kernel
theorem dX5_readTest_17 : decode cX5_readTest 17 = .ok (.iconst 0, 1) := by decide +kernel
theorem dX5_readTest_18 : decode cX5_readTest 18 = .ok (.istore_n 2, 1) := by decide +kernel
theorem dX5_readTest_19 : decode cX5_readTest 19 = .ok (.iconst 0, 1) := by decide +kernel
theorem dX5_readTest_20 : decode cX5_readTest 20 = .ok (.istore_n 3, 1) := by decide +kernel
theorem dX5_readTest_21 : decode cX5_readTest 21 = .ok (.iload_n 3, 1) := by decide +kernel
theorem dX5_readTest_22 : decode cX5_readTest 22 = .ok (.sipush 400, 3) := by decide +kernel
theorem dX5_readTest_25 : decode cX5_readTest 25 = .ok (.if_icmp .ge 137, 3) := by decide +kernel
theorem dX5_readTest_28 : decode cX5_readTest 28 = .ok (.iload_n 1, 1) := by decide +kernel
theorem dX5_readTest_29 : decode cX5_readTest 29 = .ok (.ifCond .eq 14, 3) := by decide +kernel
theorem dX5_readTest_32 : decode cX5_readTest 32 = .ok (.iconst 0, 1) := by decide +kernel
theorem dX5_readTest_33 : decode cX5_readTest 33 = .ok (.istore_n 2, 1) := by decide +kernel
theorem dX5_readTest_34 : decode cX5_readTest 34 = .ok (.aload_n 0, 1) := by decide +kernel
theorem dX5_readTest_35 : decode cX5_readTest 35 = .ok (.invokevirtual 88, 3) := by decide +kernel
theorem dX5_readTest_38 : decode cX5_readTest 38 = .ok (.ifCond .ne 5, 3) := by decide +kernel
theorem dX5_readTest_41 : decode cX5_readTest 41 = .ok (.iconst 0, 1) := by decide +kernel
theorem dX5_readTest_42 : decode cX5_readTest 42 = .ok (.ireturn, 1) := by decide +kernel
theorem dX5_readTest_43 : decode cX5_readTest 43 = .ok (.aload_n 0, 1) := by decide +kernel
theorem dX5_readTest_44 : decode cX5_readTest 44 = .ok (.invokevirtual 91, 3) := by decide +kernel
theorem dX5_readTest_47 : decode cX5_readTest 47 = .ok (.ifCond .ne 5, 3) := by decide +kernel
theorem dX5_readTest_50 : decode cX5_readTest 50 = .ok (.iconst 0, 1) := by decide +kernel
theorem dX5_readTest_51 : decode cX5_readTest 51 = .ok (.ireturn, 1) := by decide +kernel
theorem dX5_readTest_52 : decode cX5_readTest 52 = .ok (.aload_n 0, 1) := by decide +kernel
theorem dX5_readTest_53 : decode cX5_readTest 53 = .ok (.invokevirtual 94, 3) := by decide +kernel
theorem dX5_readTest_56 : decode cX5_readTest 56 = .ok (.istore 4, 2) := by decide +kernel
theorem dX5_readTest_58 : decode cX5_readTest 58 = .ok (.iload 4, 2) := by decide +kernel
theorem dX5_readTest_60 : decode cX5_readTest 60 = .ok (.ifCond .ge 11, 3) := by decide +kernel
theorem dX5_readTest_63 : decode cX5_readTest 63 = .ok (.iload_n 2, 1) := by decide +kernel
theorem dX5_readTest_64 : decode cX5_readTest 64 = .ok (.ifCond .eq 7, 3) := by decide +kernel
theorem dX5_readTest_67 : decode cX5_readTest 67 = .ok (.iconst 1, 1) := by decide +kernel
theorem dX5_readTest_68 : decode cX5_readTest 68 = .ok (.goto 4, 3) := by decide +kernel
theorem dX5_readTest_71 : decode cX5_readTest 71 = .ok (.iconst 0, 1) := by decide +kernel
theorem dX5_readTest_72 : decode cX5_readTest 72 = .ok (.istore_n 1, 1) := by decide +kernel
theorem dX5_readTest_73 : decode cX5_readTest 73 = .ok (.iload_n 1, 1) := by decide +kernel
theorem dX5_readTest_74 : decode cX5_readTest 74 = .ok (.ifCond .eq 23, 3) := by decide +kernel
theorem dX5_readTest_77 : decode cX5_readTest 77 = .ok (.aload_n 0, 1) := by decide +kernel
theorem dX5_readTest_78 : decode cX5_readTest 78 = .ok (.invokevirtual 98, 3) := by decide +kernel
theorem dX5_readTest_81 : decode cX5_readTest 81 = .ok (.aload_n 0, 1) := by decide +kernel
theorem dX5_readTest_82 : decode cX5_readTest 82 = .ok (.invokevirtual 101, 3) := by decide +kernel
theorem dX5_readTest_85 : decode cX5_readTest 85 = .ok (.istore 4, 2) := by decide +kernel
theorem dX5_readTest_87 : decode cX5_readTest 87 = .ok (.iload 4, 2) := by decide +kernel
theorem dX5_readTest_89 : decode cX5_readTest 89 = .ok (.ifCond .ge 51, 3) := by decide +kernel
theorem dX5_readTest_92 : decode cX5_readTest 92 = .ok (.aload_n 0, 1) := by decide +kernel
theorem dX5_readTest_93 : decode cX5_readTest 93 = .ok (.invokevirtual 104, 3) := by decide +kernel
theorem dX5_readTest_96 : decode cX5_readTest 96 = .ok (.ireturn, 1) := by decide +kernel
theorem dX5_readTest_97 : decode cX5_readTest 97 = .ok (.iload 4, 2) := by decide +kernel
theorem dX5_readTest_99 : decode cX5_readTest 99 = .ok (.ifCond .ge 41, 3) := by decide +kernel
theorem dX5_readTest_102 : decode cX5_readTest 102 = .ok (.aload_n 0, 1) := by decide +kernel
theorem dX5_readTest_103 : decode cX5_readTest 103 = .ok (.invokevirtual 107, 3) := by decide +kernel
theorem dX5_readTest_106 : decode cX5_readTest 106 = .ok (.istore 4, 2) := by decide +kernel
theorem dX5_readTest_108 : decode cX5_readTest 108 = .ok (.iload 4, 2) := by decide +kernel
theorem dX5_readTest_110 : decode cX5_readTest 110 = .ok (.ifCond .ge 19, 3) := by decide +kernel
theorem dX5_readTest_113 : decode cX5_readTest 113 = .ok (.aload_n 0, 1) := by decide +kernel
theorem dX5_readTest_114 : decode cX5_readTest 114 = .ok (.getfield 35, 3) := by decide +kernel
theorem dX5_readTest_117 : decode cX5_readTest 117 = .ok (.aload_n 0, 1) := by decide +kernel
theorem dX5_readTest_118 : decode cX5_readTest 118 = .ok (.getfield 35, 3) := by decide +kernel
theorem dX5_readTest_121 : decode cX5_readTest 121 = .ok (.getfield 59, 3) := by decide +kernel
theorem dX5_readTest_124 : decode cX5_readTest 124 = .ok (.iconst 0, 1) := by decide +kernel
theorem dX5_readTest_125 : decode cX5_readTest 125 = .ok (.invokevirtual 62, 3) := by decide +kernel
theorem dX5_readTest_128 : decode cX5_readTest 128 = .ok (.ireturn, 1) := by decide +kernel
theorem dX5_readTest_129 : decode cX5_readTest 129 = .ok (.aload_n 0, 1) := by decide +kernel
theorem dX5_readTest_130 : decode cX5_readTest 130 = .ok (.invokevirtual 110, 3) := by decide +kernel
theorem dX5_readTest_133 : decode cX5_readTest 133 = .ok (.ifCond .ne 5, 3) := by decide +kernel
theorem dX5_readTest_136 : decode cX5_readTest 136 = .ok (.iconst 0, 1) := by decide +kernel
theorem dX5_readTest_137 : decode cX5_readTest 137 = .ok (.ireturn, 1) := by decide +kernel
theorem dX5_readTest_138 : decode cX5_readTest 138 = .ok (.iconst 1, 1) := by decide +kernel
theorem dX5_readTest_139 : decode cX5_readTest 139 = .ok (.istore_n 2, 1) := by decide +kernel
theorem dX5_readTest_140 : decode cX5_readTest 140 = .ok (.aload_n 0, 1) := by decide +kernel
theorem dX5_readTest_141 : decode cX5_readTest 141 = .ok (.getstatic 113, 3) := by decide +kernel
theorem dX5_readTest_144 : decode cX5_readTest 144 = .ok (.iload 4, 2) := by decide +kernel
theorem dX5_readTest_146 : decode cX5_readTest 146 = .ok (.iaload, 1) := by decide +kernel
theorem dX5_readTest_147 : decode cX5_readTest 147 = .ok (.invokevirtual 116, 3) := by decide +kernel
theorem dX5_readTest_150 : decode cX5_readTest 150 = .ok (.aload_n 0, 1) := by decide +kernel
theorem dX5_readTest_151 : decode cX5_readTest 151 = .ok (.iload 4, 2) := by decide +kernel
theorem dX5_readTest_153 : decode cX5_readTest 153 = .ok (.invokevirtual 120, 3) := by decide +kernel
theorem dX5_readTest_156 : decode cX5_readTest 156 = .ok (.iinc 3 1, 3) := by decide +kernel
theorem dX5_readTest_159 : decode cX5_readTest 159 = .ok (.goto (-138), 3) := by decide +kernel
theorem dX5_readTest_162 : decode cX5_readTest 162 = .ok (.iconst 0, 1) := by decide +kernel
theorem dX5_readTest_163 : decode cX5_readTest 163 = .ok (.ireturn, 1) := by decide +kernel
theorem dX5_readOpenings_0 : decode cX5_readOpenings 0 = .ok (.iconst 0, 1) := by decide +kernel
theorem dX5_readOpenings_1 : decode cX5_readOpenings 1 = .ok (.istore_n 1, 1) := by decide +kernel
theorem dX5_readOpenings_2 : decode cX5_readOpenings 2 = .ok (.iload_n 1, 1) := by decide +kernel
theorem dX5_readOpenings_3 : decode cX5_readOpenings 3 = .ok (.bipush 10, 2) := by decide +kernel
theorem dX5_readOpenings_5 : decode cX5_readOpenings 5 = .ok (.if_icmp .gt 104, 3) := by decide +kernel
theorem dX5_readOpenings_8 : decode cX5_readOpenings 8 = .ok (.aload_n 0, 1) := by decide +kernel
theorem dX5_readOpenings_9 : decode cX5_readOpenings 9 = .ok (.getfield 35, 3) := by decide +kernel
theorem dX5_readOpenings_12 : decode cX5_readOpenings 12 = .ok (.ldc 123, 2) := by decide +kernel
theorem dX5_readOpenings_14 : decode cX5_readOpenings 14 = .ok (.invokevirtual 68, 3) := by decide +kernel
theorem dX5_readOpenings_17 : decode cX5_readOpenings 17 = .ok (.istore_n 2, 1) := by decide +kernel
theorem dX5_readOpenings_18 : decode cX5_readOpenings 18 = .ok (.iload_n 2, 1) := by decide +kernel
theorem dX5_readOpenings_19 : decode cX5_readOpenings 19 = .ok (.ifCond .ne 17, 3) := by decide +kernel
theorem dX5_readOpenings_22 : decode cX5_readOpenings 22 = .ok (.aload_n 0, 1) := by decide +kernel
theorem dX5_readOpenings_23 : decode cX5_readOpenings 23 = .ok (.getfield 35, 3) := by decide +kernel
theorem dX5_readOpenings_26 : decode cX5_readOpenings 26 = .ok (.bipush 91, 2) := by decide +kernel
theorem dX5_readOpenings_28 : decode cX5_readOpenings 28 = .ok (.invokevirtual 55, 3) := by decide +kernel
theorem dX5_readOpenings_31 : decode cX5_readOpenings 31 = .ok (.ifCond .ne 5, 3) := by decide +kernel
theorem dX5_readOpenings_34 : decode cX5_readOpenings 34 = .ok (.iconst 1, 1) := by decide +kernel
theorem dX5_readOpenings_35 : decode cX5_readOpenings 35 = .ok (.ireturn, 1) := by decide +kernel
theorem dX5_readOpenings_36 : decode cX5_readOpenings 36 = .ok (.aload_n 0, 1) := by decide +kernel
theorem dX5_readOpenings_37 : decode cX5_readOpenings 37 = .ok (.getfield 32, 3) := by decide +kernel
theorem dX5_readOpenings_40 : decode cX5_readOpenings 40 = .ok (.bipush 10, 2) := by decide +kernel
theorem dX5_readOpenings_42 : decode cX5_readOpenings 42 = .ok (.if_icmp .lt 19, 3) := by decide +kernel
theorem dX5_readOpenings_45 : decode cX5_readOpenings 45 = .ok (.aload_n 0, 1) := by decide +kernel
theorem dX5_readOpenings_46 : decode cX5_readOpenings 46 = .ok (.getfield 35, 3) := by decide +kernel
theorem dX5_readOpenings_49 : decode cX5_readOpenings 49 = .ok (.aload_n 0, 1) := by decide +kernel
theorem dX5_readOpenings_50 : decode cX5_readOpenings 50 = .ok (.getfield 35, 3) := by decide +kernel
theorem dX5_readOpenings_53 : decode cX5_readOpenings 53 = .ok (.getfield 72, 3) := by decide +kernel
theorem dX5_readOpenings_56 : decode cX5_readOpenings 56 = .ok (.iconst 2, 1) := by decide +kernel
theorem dX5_readOpenings_57 : decode cX5_readOpenings 57 = .ok (.invokevirtual 62, 3) := by decide +kernel
theorem dX5_readOpenings_60 : decode cX5_readOpenings 60 = .ok (.ireturn, 1) := by decide +kernel
theorem dX5_readOpenings_61 : decode cX5_readOpenings 61 = .ok (.aload_n 0, 1) := by decide +kernel
theorem dX5_readOpenings_62 : decode cX5_readOpenings 62 = .ok (.dup, 1) := by decide +kernel
theorem dX5_readOpenings_63 : decode cX5_readOpenings 63 = .ok (.getfield 32, 3) := by decide +kernel
theorem dX5_readOpenings_66 : decode cX5_readOpenings 66 = .ok (.iconst 1, 1) := by decide +kernel
theorem dX5_readOpenings_67 : decode cX5_readOpenings 67 = .ok (.iadd, 1) := by decide +kernel
theorem dX5_readOpenings_68 : decode cX5_readOpenings 68 = .ok (.putfield 32, 3) := by decide +kernel
theorem dX5_readOpenings_71 : decode cX5_readOpenings 71 = .ok (.aload_n 0, 1) := by decide +kernel
theorem dX5_readOpenings_72 : decode cX5_readOpenings 72 = .ok (.dup, 1) := by decide +kernel
theorem dX5_readOpenings_73 : decode cX5_readOpenings 73 = .ok (.getfield 29, 3) := by decide +kernel
theorem dX5_readOpenings_76 : decode cX5_readOpenings 76 = .ok (.iload_n 2, 1) := by decide +kernel
theorem dX5_readOpenings_77 : decode cX5_readOpenings 77 = .ok (.ifCond .eq 7, 3) := by decide +kernel
theorem dX5_readOpenings_80 : decode cX5_readOpenings 80 = .ok (.iconst 0, 1) := by decide +kernel
theorem dX5_readOpenings_81 : decode cX5_readOpenings 81 = .ok (.goto 4, 3) := by decide +kernel
theorem dX5_readOpenings_84 : decode cX5_readOpenings 84 = .ok (.iconst 1, 1) := by decide +kernel
theorem dX5_readOpenings_85 : decode cX5_readOpenings 85 = .ok (.iadd, 1) := by decide +kernel
theorem dX5_readOpenings_86 : decode cX5_readOpenings 86 = .ok (.putfield 29, 3) := by decide +kernel
theorem dX5_readOpenings_89 : decode cX5_readOpenings 89 = .ok (.aload_n 0, 1) := by decide +kernel
theorem dX5_readOpenings_90 : decode cX5_readOpenings 90 = .ok (.iload_n 2, 1) := by decide +kernel
theorem dX5_readOpenings_91 : decode cX5_readOpenings 91 = .ok (.ifCond .eq 7, 3) := by decide +kernel
theorem dX5_readOpenings_94 : decode cX5_readOpenings 94 = .ok (.iconst 4, 1) := by decide +kernel
theorem dX5_readOpenings_95 : decode cX5_readOpenings 95 = .ok (.goto 5, 3) := by decide +kernel
theorem dX5_readOpenings_98 : decode cX5_readOpenings 98 = .ok (.bipush 16, 2) := by decide +kernel
theorem dX5_readOpenings_100 : decode cX5_readOpenings 100 = .ok (.invokevirtual 120, 3) := by decide +kernel
theorem dX5_readOpenings_103 : decode cX5_readOpenings 103 = .ok (.iinc 1 1, 3) := by decide +kernel
theorem dX5_readOpenings_106 : decode cX5_readOpenings 106 = .ok (.goto (-104), 3) := by decide +kernel
theorem dX5_readOpenings_109 : decode cX5_readOpenings 109 = .ok (.iconst 0, 1) := by decide +kernel
theorem dX5_readOpenings_110 : decode cX5_readOpenings 110 = .ok (.ireturn, 1) := by decide +kernel
theorem dX5_closeBrackets_0 : decode cX5_closeBrackets 0 = .ok (.aload_n 0, 1) := by decide +kernel
theorem dX5_closeBrackets_1 : decode cX5_closeBrackets 1 = .ok (.getfield 29, 3) := by decide +kernel
theorem dX5_closeBrackets_4 : decode cX5_closeBrackets 4 = .ok (.ifCond .le 62, 3) := by decide +kernel
theorem dX5_closeBrackets_7 : decode cX5_closeBrackets 7 = .ok (.aload_n 0, 1) := by decide +kernel
theorem dX5_closeBrackets_8 : decode cX5_closeBrackets 8 = .ok (.getfield 35, 3) := by decide +kernel
theorem dX5_closeBrackets_11 : decode cX5_closeBrackets 11 = .ok (.bipush 93, 2) := by decide +kernel
theorem dX5_closeBrackets_13 : decode cX5_closeBrackets 13 = .ok (.invokevirtual 55, 3) := by decide +kernel
theorem dX5_closeBrackets_16 : decode cX5_closeBrackets 16 = .ok (.ifCond .eq 50, 3) := by decide +kernel
theorem dX5_closeBrackets_19 : decode cX5_closeBrackets 19 = .ok (.aload_n 0, 1) := by decide +kernel
theorem dX5_closeBrackets_20 : decode cX5_closeBrackets 20 = .ok (.getstatic 113, 3) := by decide +kernel
theorem dX5_closeBrackets_23 : decode cX5_closeBrackets 23 = .ok (.bipush 6, 2) := by decide +kernel
theorem dX5_closeBrackets_25 : decode cX5_closeBrackets 25 = .ok (.iaload, 1) := by decide +kernel
theorem dX5_closeBrackets_26 : decode cX5_closeBrackets 26 = .ok (.invokevirtual 116, 3) := by decide +kernel
theorem dX5_closeBrackets_29 : decode cX5_closeBrackets 29 = .ok (.aload_n 0, 1) := by decide +kernel
theorem dX5_closeBrackets_30 : decode cX5_closeBrackets 30 = .ok (.aload_n 0, 1) := by decide +kernel
theorem dX5_closeBrackets_31 : decode cX5_closeBrackets 31 = .ok (.getfield 26, 3) := by decide +kernel
theorem dX5_closeBrackets_34 : decode cX5_closeBrackets 34 = .ok (.iconst 1, 1) := by decide +kernel
theorem dX5_closeBrackets_35 : decode cX5_closeBrackets 35 = .ok (.isub, 1) := by decide +kernel
theorem dX5_closeBrackets_36 : decode cX5_closeBrackets 36 = .ok (.iconst 0, 1) := by decide +kernel
theorem dX5_closeBrackets_37 : decode cX5_closeBrackets 37 = .ok (.invokestatic 125, 3) := by decide +kernel
theorem dX5_closeBrackets_40 : decode cX5_closeBrackets 40 = .ok (.putfield 26, 3) := by decide +kernel
theorem dX5_closeBrackets_43 : decode cX5_closeBrackets 43 = .ok (.aload_n 0, 1) := by decide +kernel
theorem dX5_closeBrackets_44 : decode cX5_closeBrackets 44 = .ok (.dup, 1) := by decide +kernel
theorem dX5_closeBrackets_45 : decode cX5_closeBrackets 45 = .ok (.getfield 32, 3) := by decide +kernel
theorem dX5_closeBrackets_48 : decode cX5_closeBrackets 48 = .ok (.iconst 1, 1) := by decide +kernel
theorem dX5_closeBrackets_49 : decode cX5_closeBrackets 49 = .ok (.isub, 1) := by decide +kernel
theorem dX5_closeBrackets_50 : decode cX5_closeBrackets 50 = .ok (.putfield 32, 3) := by decide +kernel
theorem dX5_closeBrackets_53 : decode cX5_closeBrackets 53 = .ok (.aload_n 0, 1) := by decide +kernel
theorem dX5_closeBrackets_54 : decode cX5_closeBrackets 54 = .ok (.dup, 1) := by decide +kernel
theorem dX5_closeBrackets_55 : decode cX5_closeBrackets 55 = .ok (.getfield 29, 3) := by decide +kernel
theorem dX5_closeBrackets_58 : decode cX5_closeBrackets 58 = .ok (.iconst 1, 1) := by decide +kernel
theorem dX5_closeBrackets_59 : decode cX5_closeBrackets 59 = .ok (.isub, 1) := by decide +kernel
theorem dX5_closeBrackets_60 : decode cX5_closeBrackets 60 = .ok (.putfield 29, 3) := by decide +kernel
theorem dX5_closeBrackets_63 : decode cX5_closeBrackets 63 = .ok (.goto (-63), 3) := by decide +kernel
theorem dX5_closeBrackets_66 : decode cX5_closeBrackets 66 = .ok (.return_, 1) := by decide +kernel
theorem dX5_isTestOver_0 : decode cX5_isTestOver 0 = .ok (.aload_n 0, 1) := by decide +kernel
theorem dX5_isTestOver_1 : decode cX5_isTestOver 1 = .ok (.getstatic 113, 3) := by decide +kernel
theorem dX5_isTestOver_4 : decode cX5_isTestOver 4 = .ok (.bipush 6, 2) := by decide +kernel
theorem dX5_isTestOver_6 : decode cX5_isTestOver 6 = .ok (.iaload, 1) := by decide +kernel
theorem dX5_isTestOver_7 : decode cX5_isTestOver 7 = .ok (.invokevirtual 116, 3) := by decide +kernel
theorem dX5_isTestOver_10 : decode cX5_isTestOver 10 = .ok (.aload_n 0, 1) := by decide +kernel
theorem dX5_isTestOver_11 : decode cX5_isTestOver 11 = .ok (.getfield 29, 3) := by decide +kernel
theorem dX5_isTestOver_14 : decode cX5_isTestOver 14 = .ok (.ifCond .eq 21, 3) := by decide +kernel
theorem dX5_isTestOver_17 : decode cX5_isTestOver 17 = .ok (.aload_n 0, 1) := by decide +kernel
theorem dX5_isTestOver_18 : decode cX5_isTestOver 18 = .ok (.getfield 35, 3) := by decide +kernel
theorem dX5_isTestOver_21 : decode cX5_isTestOver 21 = .ok (.aload_n 0, 1) := by decide +kernel
theorem dX5_isTestOver_22 : decode cX5_isTestOver 22 = .ok (.getfield 35, 3) := by decide +kernel
theorem dX5_isTestOver_25 : decode cX5_isTestOver 25 = .ok (.getfield 59, 3) := by decide +kernel
theorem dX5_isTestOver_28 : decode cX5_isTestOver 28 = .ok (.iconst 0, 1) := by decide +kernel
theorem dX5_isTestOver_29 : decode cX5_isTestOver 29 = .ok (.invokevirtual 62, 3) := by decide +kernel
theorem dX5_isTestOver_32 : decode cX5_isTestOver 32 = .ok (.ifCond .eq 7, 3) := by decide +kernel
theorem dX5_isTestOver_35 : decode cX5_isTestOver 35 = .ok (.iconst 1, 1) := by decide +kernel
theorem dX5_isTestOver_36 : decode cX5_isTestOver 36 = .ok (.goto 4, 3) := by decide +kernel
theorem dX5_isTestOver_39 : decode cX5_isTestOver 39 = .ok (.iconst 0, 1) := by decide +kernel
theorem dX5_isTestOver_40 : decode cX5_isTestOver 40 = .ok (.ireturn, 1) := by decide +kernel
theorem dX5_hold_0 : decode cX5_hold 0 = .ok (.aload_n 0, 1) := by decide +kernel
theorem dX5_hold_1 : decode cX5_hold 1 = .ok (.getfield 26, 3) := by decide +kernel
theorem dX5_hold_4 : decode cX5_hold 4 = .ok (.ifCond .lt 32, 3) := by decide +kernel
theorem dX5_hold_7 : decode cX5_hold 7 = .ok (.aload_n 0, 1) := by decide +kernel
theorem dX5_hold_8 : decode cX5_hold 8 = .ok (.getfield 26, 3) := by decide +kernel
theorem dX5_hold_11 : decode cX5_hold 11 = .ok (.bipush 64, 2) := by decide +kernel
theorem dX5_hold_13 : decode cX5_hold 13 = .ok (.if_icmp .ge 23, 3) := by decide +kernel
theorem dX5_hold_16 : decode cX5_hold 16 = .ok (.aload_n 0, 1) := by decide +kernel
theorem dX5_hold_17 : decode cX5_hold 17 = .ok (.getfield 9, 3) := by decide +kernel
theorem dX5_hold_20 : decode cX5_hold 20 = .ok (.aload_n 0, 1) := by decide +kernel
theorem dX5_hold_21 : decode cX5_hold 21 = .ok (.getfield 26, 3) := by decide +kernel
theorem dX5_hold_24 : decode cX5_hold 24 = .ok (.iload_n 1, 1) := by decide +kernel
theorem dX5_hold_25 : decode cX5_hold 25 = .ok (.iastore, 1) := by decide +kernel
theorem dX5_hold_26 : decode cX5_hold 26 = .ok (.aload_n 0, 1) := by decide +kernel
theorem dX5_hold_27 : decode cX5_hold 27 = .ok (.dup, 1) := by decide +kernel
theorem dX5_hold_28 : decode cX5_hold 28 = .ok (.getfield 26, 3) := by decide +kernel
theorem dX5_hold_31 : decode cX5_hold 31 = .ok (.iconst 1, 1) := by decide +kernel
theorem dX5_hold_32 : decode cX5_hold 32 = .ok (.iadd, 1) := by decide +kernel
theorem dX5_hold_33 : decode cX5_hold 33 = .ok (.putfield 26, 3) := by decide +kernel
theorem dX5_hold_36 : decode cX5_hold 36 = .ok (.return_, 1) := by decide +kernel
theorem dX5_settle_0 : decode cX5_settle 0 = .ok (.aload_n 0, 1) := by decide +kernel
theorem dX5_settle_1 : decode cX5_settle 1 = .ok (.getfield 26, 3) := by decide +kernel
theorem dX5_settle_4 : decode cX5_settle 4 = .ok (.ifCond .le 79, 3) := by decide +kernel
theorem dX5_settle_7 : decode cX5_settle 7 = .ok (.getstatic 113, 3) := by decide +kernel
theorem dX5_settle_10 : decode cX5_settle 10 = .ok (.aload_n 0, 1) := by decide +kernel
theorem dX5_settle_11 : decode cX5_settle 11 = .ok (.getfield 9, 3) := by decide +kernel
theorem dX5_settle_14 : decode cX5_settle 14 = .ok (.aload_n 0, 1) := by decide +kernel
theorem dX5_settle_15 : decode cX5_settle 15 = .ok (.getfield 26, 3) := by decide +kernel
theorem dX5_settle_18 : decode cX5_settle 18 = .ok (.iconst 1, 1) := by decide +kernel
theorem dX5_settle_19 : decode cX5_settle 19 = .ok (.isub, 1) := by decide +kernel
theorem dX5_settle_20 : decode cX5_settle 20 = .ok (.iaload, 1) := by decide +kernel
theorem dX5_settle_21 : decode cX5_settle 21 = .ok (.iaload, 1) := by decide +kernel
theorem dX5_settle_22 : decode cX5_settle 22 = .ok (.iload_n 1, 1) := by decide +kernel
theorem dX5_settle_23 : decode cX5_settle 23 = .ok (.if_icmp .lt 60, 3) := by decide +kernel
theorem dX5_settle_26 : decode cX5_settle 26 = .ok (.aload_n 0, 1) := by decide +kernel
theorem dX5_settle_27 : decode cX5_settle 27 = .ok (.dup, 1) := by decide +kernel
theorem dX5_settle_28 : decode cX5_settle 28 = .ok (.getfield 26, 3) := by decide +kernel
theorem dX5_settle_31 : decode cX5_settle 31 = .ok (.iconst 1, 1) := by decide +kernel
theorem dX5_settle_32 : decode cX5_settle 32 = .ok (.isub, 1) := by decide +kernel
theorem dX5_settle_33 : decode cX5_settle 33 = .ok (.putfield 26, 3) := by decide +kernel
theorem dX5_settle_36 : decode cX5_settle 36 = .ok (.aload_n 0, 1) := by decide +kernel
theorem dX5_settle_37 : decode cX5_settle 37 = .ok (.getfield 18, 3) := by decide +kernel
theorem dX5_settle_40 : decode cX5_settle 40 = .ok (.aload_n 0, 1) := by decide +kernel
theorem dX5_settle_41 : decode cX5_settle 41 = .ok (.getfield 9, 3) := by decide +kernel
theorem dX5_settle_44 : decode cX5_settle 44 = .ok (.aload_n 0, 1) := by decide +kernel
theorem dX5_settle_45 : decode cX5_settle 45 = .ok (.getfield 26, 3) := by decide +kernel
theorem dX5_settle_48 : decode cX5_settle 48 = .ok (.iaload, 1) := by decide +kernel
theorem dX5_settle_49 : decode cX5_settle 49 = .ok (.iconst 0, 1) := by decide +kernel
theorem dX5_settle_50 : decode cX5_settle 50 = .ok (.invokevirtual 84, 3) := by decide +kernel
theorem dX5_settle_53 : decode cX5_settle 53 = .ok (.aload_n 0, 1) := by decide +kernel
theorem dX5_settle_54 : decode cX5_settle 54 = .ok (.dup, 1) := by decide +kernel
theorem dX5_settle_55 : decode cX5_settle 55 = .ok (.getfield 32, 3) := by decide +kernel
theorem dX5_settle_58 : decode cX5_settle 58 = .ok (.aload_n 0, 1) := by decide +kernel
theorem dX5_settle_59 : decode cX5_settle 59 = .ok (.getfield 9, 3) := by decide +kernel
theorem dX5_settle_62 : decode cX5_settle 62 = .ok (.aload_n 0, 1) := by decide +kernel
theorem dX5_settle_63 : decode cX5_settle 63 = .ok (.getfield 26, 3) := by decide +kernel
theorem dX5_settle_66 : decode cX5_settle 66 = .ok (.iaload, 1) := by decide +kernel
theorem dX5_settle_67 : decode cX5_settle 67 = .ok (.iconst 4, 1) := by decide +kernel
theorem dX5_settle_68 : decode cX5_settle 68 = .ok (.if_icmp .ne 7, 3) := by decide +kernel
theorem dX5_settle_71 : decode cX5_settle 71 = .ok (.iconst 1, 1) := by decide +kernel
theorem dX5_settle_72 : decode cX5_settle 72 = .ok (.goto 4, 3) := by decide +kernel
theorem dX5_settle_75 : decode cX5_settle 75 = .ok (.iconst 0, 1) := by decide +kernel
theorem dX5_settle_76 : decode cX5_settle 76 = .ok (.isub, 1) := by decide +kernel
theorem dX5_settle_77 : decode cX5_settle 77 = .ok (.putfield 32, 3) := by decide +kernel
theorem dX5_settle_80 : decode cX5_settle 80 = .ok (.goto (-80), 3) := by decide +kernel
theorem dX5_settle_83 : decode cX5_settle 83 = .ok (.return_, 1) := by decide +kernel
theorem dX5_takeReckoning_0 : decode cX5_takeReckoning 0 = .ok (.aload_n 0, 1) := by decide +kernel
theorem dX5_takeReckoning_1 : decode cX5_takeReckoning 1 = .ok (.getfield 35, 3) := by decide +kernel
theorem dX5_takeReckoning_4 : decode cX5_takeReckoning 4 = .ok (.bipush 43, 2) := by decide +kernel
theorem dX5_takeReckoning_6 : decode cX5_takeReckoning 6 = .ok (.invokevirtual 55, 3) := by decide +kernel
theorem dX5_takeReckoning_9 : decode cX5_takeReckoning 9 = .ok (.ifCond .eq 6, 3) := by decide +kernel
theorem dX5_takeReckoning_12 : decode cX5_takeReckoning 12 = .ok (.bipush 7, 2) := by decide +kernel
theorem dX5_takeReckoning_14 : decode cX5_takeReckoning 14 = .ok (.ireturn, 1) := by decide +kernel
theorem dX5_takeReckoning_15 : decode cX5_takeReckoning 15 = .ok (.aload_n 0, 1) := by decide +kernel
theorem dX5_takeReckoning_16 : decode cX5_takeReckoning 16 = .ok (.getfield 35, 3) := by decide +kernel
theorem dX5_takeReckoning_19 : decode cX5_takeReckoning 19 = .ok (.bipush 45, 2) := by decide +kernel
theorem dX5_takeReckoning_21 : decode cX5_takeReckoning 21 = .ok (.invokevirtual 55, 3) := by decide +kernel
theorem dX5_takeReckoning_24 : decode cX5_takeReckoning 24 = .ok (.ifCond .eq 6, 3) := by decide +kernel
theorem dX5_takeReckoning_27 : decode cX5_takeReckoning 27 = .ok (.bipush 8, 2) := by decide +kernel
theorem dX5_takeReckoning_29 : decode cX5_takeReckoning 29 = .ok (.ireturn, 1) := by decide +kernel
theorem dX5_takeReckoning_30 : decode cX5_takeReckoning 30 = .ok (.aload_n 0, 1) := by decide +kernel
theorem dX5_takeReckoning_31 : decode cX5_takeReckoning 31 = .ok (.getfield 35, 3) := by decide +kernel
theorem dX5_takeReckoning_34 : decode cX5_takeReckoning 34 = .ok (.bipush 42, 2) := by decide +kernel
theorem dX5_takeReckoning_36 : decode cX5_takeReckoning 36 = .ok (.invokevirtual 55, 3) := by decide +kernel
theorem dX5_takeReckoning_39 : decode cX5_takeReckoning 39 = .ok (.ifCond .eq 6, 3) := by decide +kernel
theorem dX5_takeReckoning_42 : decode cX5_takeReckoning 42 = .ok (.bipush 9, 2) := by decide +kernel
theorem dX5_takeReckoning_44 : decode cX5_takeReckoning 44 = .ok (.ireturn, 1) := by decide +kernel
theorem dX5_takeReckoning_45 : decode cX5_takeReckoning 45 = .ok (.aload_n 0, 1) := by decide +kernel
theorem dX5_takeReckoning_46 : decode cX5_takeReckoning 46 = .ok (.getfield 35, 3) := by decide +kernel
theorem dX5_takeReckoning_49 : decode cX5_takeReckoning 49 = .ok (.bipush 47, 2) := by decide +kernel
theorem dX5_takeReckoning_51 : decode cX5_takeReckoning 51 = .ok (.invokevirtual 55, 3) := by decide +kernel
theorem dX5_takeReckoning_54 : decode cX5_takeReckoning 54 = .ok (.ifCond .eq 8, 3) := by decide +kernel
theorem dX5_takeReckoning_57 : decode cX5_takeReckoning 57 = .ok (.bipush 10, 2) := by decide +kernel
theorem dX5_takeReckoning_59 : decode cX5_takeReckoning 59 = .ok (.goto 4, 3) := by decide +kernel
theorem dX5_takeReckoning_62 : decode cX5_takeReckoning 62 = .ok (.iconst (-1), 1) := by decide +kernel
theorem dX5_takeReckoning_63 : decode cX5_takeReckoning 63 = .ok (.ireturn, 1) := by decide +kernel
theorem dX5_takeJoining_0 : decode cX5_takeJoining 0 = .ok (.aload_n 0, 1) := by decide +kernel
theorem dX5_takeJoining_1 : decode cX5_takeJoining 1 = .ok (.getfield 35, 3) := by decide +kernel
theorem dX5_takeJoining_4 : decode cX5_takeJoining 4 = .ok (.ldc 130, 2) := by decide +kernel
theorem dX5_takeJoining_6 : decode cX5_takeJoining 6 = .ok (.invokevirtual 68, 3) := by decide +kernel
theorem dX5_takeJoining_9 : decode cX5_takeJoining 9 = .ok (.ifCond .eq 5, 3) := by decide +kernel
theorem dX5_takeJoining_12 : decode cX5_takeJoining 12 = .ok (.iconst 5, 1) := by decide +kernel
theorem dX5_takeJoining_13 : decode cX5_takeJoining 13 = .ok (.ireturn, 1) := by decide +kernel
theorem dX5_takeJoining_14 : decode cX5_takeJoining 14 = .ok (.aload_n 0, 1) := by decide +kernel
theorem dX5_takeJoining_15 : decode cX5_takeJoining 15 = .ok (.getfield 35, 3) := by decide +kernel
theorem dX5_takeJoining_18 : decode cX5_takeJoining 18 = .ok (.ldc 132, 2) := by decide +kernel
theorem dX5_takeJoining_20 : decode cX5_takeJoining 20 = .ok (.invokevirtual 68, 3) := by decide +kernel
theorem dX5_takeJoining_23 : decode cX5_takeJoining 23 = .ok (.ifCond .eq 8, 3) := by decide +kernel
theorem dX5_takeJoining_26 : decode cX5_takeJoining 26 = .ok (.bipush 6, 2) := by decide +kernel
theorem dX5_takeJoining_28 : decode cX5_takeJoining 28 = .ok (.goto 4, 3) := by decide +kernel
theorem dX5_takeJoining_31 : decode cX5_takeJoining 31 = .ok (.iconst (-1), 1) := by decide +kernel
theorem dX5_takeJoining_32 : decode cX5_takeJoining 32 = .ok (.ireturn, 1) := by decide +kernel
theorem dX5_takeComparing_0 : decode cX5_takeComparing 0 = .ok (.aload_n 0, 1) := by decide +kernel
theorem dX5_takeComparing_1 : decode cX5_takeComparing 1 = .ok (.getfield 35, 3) := by decide +kernel
theorem dX5_takeComparing_4 : decode cX5_takeComparing 4 = .ok (.bipush 61, 2) := by decide +kernel
theorem dX5_takeComparing_6 : decode cX5_takeComparing 6 = .ok (.invokevirtual 55, 3) := by decide +kernel
theorem dX5_takeComparing_9 : decode cX5_takeComparing 9 = .ok (.ifCond .eq 6, 3) := by decide +kernel
theorem dX5_takeComparing_12 : decode cX5_takeComparing 12 = .ok (.bipush 13, 2) := by decide +kernel
theorem dX5_takeComparing_14 : decode cX5_takeComparing 14 = .ok (.ireturn, 1) := by decide +kernel
theorem dX5_takeComparing_15 : decode cX5_takeComparing 15 = .ok (.aload_n 0, 1) := by decide +kernel
theorem dX5_takeComparing_16 : decode cX5_takeComparing 16 = .ok (.getfield 35, 3) := by decide +kernel
theorem dX5_takeComparing_19 : decode cX5_takeComparing 19 = .ok (.bipush 60, 2) := by decide +kernel
theorem dX5_takeComparing_21 : decode cX5_takeComparing 21 = .ok (.invokevirtual 55, 3) := by decide +kernel
theorem dX5_takeComparing_24 : decode cX5_takeComparing 24 = .ok (.istore_n 1, 1) := by decide +kernel
theorem dX5_takeComparing_25 : decode cX5_takeComparing 25 = .ok (.iload_n 1, 1) := by decide +kernel
theorem dX5_takeComparing_26 : decode cX5_takeComparing 26 = .ok (.ifCond .ne 17, 3) := by decide +kernel
theorem dX5_takeComparing_29 : decode cX5_takeComparing 29 = .ok (.aload_n 0, 1) := by decide +kernel
theorem dX5_takeComparing_30 : decode cX5_takeComparing 30 = .ok (.getfield 35, 3) := by decide +kernel
theorem dX5_takeComparing_33 : decode cX5_takeComparing 33 = .ok (.bipush 62, 2) := by decide +kernel
theorem dX5_takeComparing_35 : decode cX5_takeComparing 35 = .ok (.invokevirtual 55, 3) := by decide +kernel
theorem dX5_takeComparing_38 : decode cX5_takeComparing 38 = .ok (.ifCond .ne 5, 3) := by decide +kernel
theorem dX5_takeComparing_41 : decode cX5_takeComparing 41 = .ok (.iconst (-1), 1) := by decide +kernel
theorem dX5_takeComparing_42 : decode cX5_takeComparing 42 = .ok (.ireturn, 1) := by decide +kernel
theorem dX5_takeComparing_43 : decode cX5_takeComparing 43 = .ok (.aload_n 0, 1) := by decide +kernel
theorem dX5_takeComparing_44 : decode cX5_takeComparing 44 = .ok (.getfield 35, 3) := by decide +kernel
theorem dX5_takeComparing_47 : decode cX5_takeComparing 47 = .ok (.aload_n 0, 1) := by decide +kernel
theorem dX5_takeComparing_48 : decode cX5_takeComparing 48 = .ok (.getfield 35, 3) := by decide +kernel
theorem dX5_takeComparing_51 : decode cX5_takeComparing 51 = .ok (.getfield 59, 3) := by decide +kernel
theorem dX5_takeComparing_54 : decode cX5_takeComparing 54 = .ok (.invokevirtual 134, 3) := by decide +kernel
theorem dX5_takeComparing_57 : decode cX5_takeComparing 57 = .ok (.bipush 61, 2) := by decide +kernel
theorem dX5_takeComparing_59 : decode cX5_takeComparing 59 = .ok (.if_icmp .eq 15, 3) := by decide +kernel
theorem dX5_takeComparing_62 : decode cX5_takeComparing 62 = .ok (.iload_n 1, 1) := by decide +kernel
theorem dX5_takeComparing_63 : decode cX5_takeComparing 63 = .ok (.ifCond .eq 8, 3) := by decide +kernel
theorem dX5_takeComparing_66 : decode cX5_takeComparing 66 = .ok (.bipush 11, 2) := by decide +kernel
theorem dX5_takeComparing_68 : decode cX5_takeComparing 68 = .ok (.goto 5, 3) := by decide +kernel
theorem dX5_takeComparing_71 : decode cX5_takeComparing 71 = .ok (.bipush 15, 2) := by decide +kernel
theorem dX5_takeComparing_73 : decode cX5_takeComparing 73 = .ok (.ireturn, 1) := by decide +kernel
theorem dX5_takeComparing_74 : decode cX5_takeComparing 74 = .ok (.aload_n 0, 1) := by decide +kernel
theorem dX5_takeComparing_75 : decode cX5_takeComparing 75 = .ok (.getfield 35, 3) := by decide +kernel
theorem dX5_takeComparing_78 : decode cX5_takeComparing 78 = .ok (.dup, 1) := by decide +kernel
theorem dX5_takeComparing_79 : decode cX5_takeComparing 79 = .ok (.getfield 59, 3) := by decide +kernel
theorem dX5_takeComparing_82 : decode cX5_takeComparing 82 = .ok (.iconst 1, 1) := by decide +kernel
theorem dX5_takeComparing_83 : decode cX5_takeComparing 83 = .ok (.iadd, 1) := by decide +kernel
theorem dX5_takeComparing_84 : decode cX5_takeComparing 84 = .ok (.putfield 59, 3) := by decide +kernel
theorem dX5_takeComparing_87 : decode cX5_takeComparing 87 = .ok (.iload_n 1, 1) := by decide +kernel
theorem dX5_takeComparing_88 : decode cX5_takeComparing 88 = .ok (.ifCond .eq 8, 3) := by decide +kernel
theorem dX5_takeComparing_91 : decode cX5_takeComparing 91 = .ok (.bipush 12, 2) := by decide +kernel
theorem dX5_takeComparing_93 : decode cX5_takeComparing 93 = .ok (.goto 5, 3) := by decide +kernel
theorem dX5_takeComparing_96 : decode cX5_takeComparing 96 = .ok (.bipush 14, 2) := by decide +kernel
theorem dX5_takeComparing_98 : decode cX5_takeComparing 98 = .ok (.ireturn, 1) := by decide +kernel
theorem dX5_readValue_0 : decode cX5_readValue 0 = .ok (.aload_n 0, 1) := by decide +kernel
theorem dX5_readValue_1 : decode cX5_readValue 1 = .ok (.getfield 35, 3) := by decide +kernel
theorem dX5_readValue_4 : decode cX5_readValue 4 = .ok (.invokevirtual 138, 3) := by decide +kernel
theorem dX5_readValue_7 : decode cX5_readValue 7 = .ok (.aload_n 0, 1) := by decide +kernel
theorem dX5_readValue_8 : decode cX5_readValue 8 = .ok (.getfield 35, 3) := by decide +kernel
theorem dX5_readValue_11 : decode cX5_readValue 11 = .ok (.aload_n 0, 1) := by decide +kernel
theorem dX5_readValue_12 : decode cX5_readValue 12 = .ok (.getfield 35, 3) := by decide +kernel
theorem dX5_readValue_15 : decode cX5_readValue 15 = .ok (.getfield 59, 3) := by decide +kernel
theorem dX5_readValue_18 : decode cX5_readValue 18 = .ok (.invokevirtual 141, 3) := by decide +kernel
theorem dX5_readValue_21 : decode cX5_readValue 21 = .ok (.istore_n 1, 1) := by decide +kernel
theorem dX5_readValue_22 : decode cX5_readValue 22 = .ok (.iload_n 1, 1) := by decide +kernel
theorem dX5_readValue_23 : decode cX5_readValue 23 = .ok (.ifCond .eq 16, 3) := by decide +kernel
theorem dX5_readValue_26 : decode cX5_readValue 26 = .ok (.aload_n 0, 1) := by decide +kernel
theorem dX5_readValue_27 : decode cX5_readValue 27 = .ok (.getfield 35, 3) := by decide +kernel
theorem dX5_readValue_30 : decode cX5_readValue 30 = .ok (.iconst 0, 1) := by decide +kernel
theorem dX5_readValue_31 : decode cX5_readValue 31 = .ok (.ldc 144, 2) := by decide +kernel
theorem dX5_readValue_33 : decode cX5_readValue 33 = .ok (.invokevirtual 75, 3) := by decide +kernel
theorem dX5_readValue_36 : decode cX5_readValue 36 = .ok (.goto 7, 3) := by decide +kernel
theorem dX5_readValue_39 : decode cX5_readValue 39 = .ok (.aload_n 0, 1) := by decide +kernel
theorem dX5_readValue_40 : decode cX5_readValue 40 = .ok (.invokevirtual 145, 3) := by decide +kernel
theorem dX5_readValue_43 : decode cX5_readValue 43 = .ok (.istore_n 2, 1) := by decide +kernel
theorem dX5_readValue_44 : decode cX5_readValue 44 = .ok (.iload_n 2, 1) := by decide +kernel
theorem dX5_readValue_45 : decode cX5_readValue 45 = .ok (.ifCond .ge 23, 3) := by decide +kernel
theorem dX5_readValue_48 : decode cX5_readValue 48 = .ok (.iload_n 1, 1) := by decide +kernel
theorem dX5_readValue_49 : decode cX5_readValue 49 = .ok (.ifCond .ne 19, 3) := by decide +kernel
theorem dX5_readValue_52 : decode cX5_readValue 52 = .ok (.aload_n 0, 1) := by decide +kernel
theorem dX5_readValue_53 : decode cX5_readValue 53 = .ok (.getfield 35, 3) := by decide +kernel
theorem dX5_readValue_56 : decode cX5_readValue 56 = .ok (.aload_n 0, 1) := by decide +kernel
theorem dX5_readValue_57 : decode cX5_readValue 57 = .ok (.getfield 35, 3) := by decide +kernel
theorem dX5_readValue_60 : decode cX5_readValue 60 = .ok (.getfield 59, 3) := by decide +kernel
theorem dX5_readValue_63 : decode cX5_readValue 63 = .ok (.iconst 0, 1) := by decide +kernel
theorem dX5_readValue_64 : decode cX5_readValue 64 = .ok (.invokevirtual 62, 3) := by decide +kernel
theorem dX5_readValue_67 : decode cX5_readValue 67 = .ok (.ireturn, 1) := by decide +kernel
theorem dX5_readValue_68 : decode cX5_readValue 68 = .ok (.iload_n 2, 1) := by decide +kernel
theorem dX5_readValue_69 : decode cX5_readValue 69 = .ok (.ifCond .ge 5, 3) := by decide +kernel
theorem dX5_readValue_72 : decode cX5_readValue 72 = .ok (.iconst 0, 1) := by decide +kernel
theorem dX5_readValue_73 : decode cX5_readValue 73 = .ok (.ireturn, 1) := by decide +kernel
theorem dX5_readValue_74 : decode cX5_readValue 74 = .ok (.aload_n 0, 1) := by decide +kernel
theorem dX5_readValue_75 : decode cX5_readValue 75 = .ok (.invokevirtual 110, 3) := by decide +kernel
theorem dX5_readValue_78 : decode cX5_readValue 78 = .ok (.ifCond .ne 5, 3) := by decide +kernel
theorem dX5_readValue_81 : decode cX5_readValue 81 = .ok (.iconst 0, 1) := by decide +kernel
theorem dX5_readValue_82 : decode cX5_readValue 82 = .ok (.ireturn, 1) := by decide +kernel
theorem dX5_readValue_83 : decode cX5_readValue 83 = .ok (.aload_n 0, 1) := by decide +kernel
theorem dX5_readValue_84 : decode cX5_readValue 84 = .ok (.getfield 18, 3) := by decide +kernel
theorem dX5_readValue_87 : decode cX5_readValue 87 = .ok (.iload_n 1, 1) := by decide +kernel
theorem dX5_readValue_88 : decode cX5_readValue 88 = .ok (.ifCond .eq 7, 3) := by decide +kernel
theorem dX5_readValue_91 : decode cX5_readValue 91 = .ok (.iconst 2, 1) := by decide +kernel
theorem dX5_readValue_92 : decode cX5_readValue 92 = .ok (.goto 4, 3) := by decide +kernel
theorem dX5_readValue_95 : decode cX5_readValue 95 = .ok (.iconst 3, 1) := by decide +kernel
theorem dX5_readValue_96 : decode cX5_readValue 96 = .ok (.iload_n 2, 1) := by decide +kernel
theorem dX5_readValue_97 : decode cX5_readValue 97 = .ok (.invokevirtual 84, 3) := by decide +kernel
theorem dX5_readValue_100 : decode cX5_readValue 100 = .ok (.iconst 1, 1) := by decide +kernel
theorem dX5_readValue_101 : decode cX5_readValue 101 = .ok (.ireturn, 1) := by decide +kernel
theorem dX5_takeName_0 : decode cX5_takeName 0 = .ok (.aload_n 0, 1) := by decide +kernel
theorem dX5_takeName_1 : decode cX5_takeName 1 = .ok (.getfield 35, 3) := by decide +kernel
theorem dX5_takeName_4 : decode cX5_takeName 4 = .ok (.ldc 148, 2) := by decide +kernel
theorem dX5_takeName_6 : decode cX5_takeName 6 = .ok (.invokevirtual 68, 3) := by decide +kernel
theorem dX5_takeName_9 : decode cX5_takeName 9 = .ok (.ifCond .eq 5, 3) := by decide +kernel
theorem dX5_takeName_12 : decode cX5_takeName 12 = .ok (.iconst 0, 1) := by decide +kernel
theorem dX5_takeName_13 : decode cX5_takeName 13 = .ok (.ireturn, 1) := by decide +kernel
theorem dX5_takeName_14 : decode cX5_takeName 14 = .ok (.aload_n 0, 1) := by decide +kernel
theorem dX5_takeName_15 : decode cX5_takeName 15 = .ok (.getfield 35, 3) := by decide +kernel
theorem dX5_takeName_18 : decode cX5_takeName 18 = .ok (.ldc 150, 2) := by decide +kernel
theorem dX5_takeName_20 : decode cX5_takeName 20 = .ok (.invokevirtual 68, 3) := by decide +kernel
theorem dX5_takeName_23 : decode cX5_takeName 23 = .ok (.ifCond .eq 5, 3) := by decide +kernel
theorem dX5_takeName_26 : decode cX5_takeName 26 = .ok (.iconst 1, 1) := by decide +kernel
theorem dX5_takeName_27 : decode cX5_takeName 27 = .ok (.ireturn, 1) := by decide +kernel
theorem dX5_takeName_28 : decode cX5_takeName 28 = .ok (.aload_n 0, 1) := by decide +kernel
theorem dX5_takeName_29 : decode cX5_takeName 29 = .ok (.getfield 35, 3) := by decide +kernel
theorem dX5_takeName_32 : decode cX5_takeName 32 = .ok (.ldc 152, 2) := by decide +kernel
theorem dX5_takeName_34 : decode cX5_takeName 34 = .ok (.invokevirtual 68, 3) := by decide +kernel
theorem dX5_takeName_37 : decode cX5_takeName 37 = .ok (.ifCond .eq 5, 3) := by decide +kernel
theorem dX5_takeName_40 : decode cX5_takeName 40 = .ok (.iconst 2, 1) := by decide +kernel
theorem dX5_takeName_41 : decode cX5_takeName 41 = .ok (.ireturn, 1) := by decide +kernel
theorem dX5_takeName_42 : decode cX5_takeName 42 = .ok (.aload_n 0, 1) := by decide +kernel
theorem dX5_takeName_43 : decode cX5_takeName 43 = .ok (.getfield 35, 3) := by decide +kernel
theorem dX5_takeName_46 : decode cX5_takeName 46 = .ok (.ldc 154, 2) := by decide +kernel
theorem dX5_takeName_48 : decode cX5_takeName 48 = .ok (.invokevirtual 68, 3) := by decide +kernel
theorem dX5_takeName_51 : decode cX5_takeName 51 = .ok (.ifCond .eq 5, 3) := by decide +kernel
theorem dX5_takeName_54 : decode cX5_takeName 54 = .ok (.iconst 3, 1) := by decide +kernel
theorem dX5_takeName_55 : decode cX5_takeName 55 = .ok (.ireturn, 1) := by decide +kernel
theorem dX5_takeName_56 : decode cX5_takeName 56 = .ok (.aload_n 0, 1) := by decide +kernel
theorem dX5_takeName_57 : decode cX5_takeName 57 = .ok (.getfield 35, 3) := by decide +kernel
theorem dX5_takeName_60 : decode cX5_takeName 60 = .ok (.ldc 156, 2) := by decide +kernel
theorem dX5_takeName_62 : decode cX5_takeName 62 = .ok (.invokevirtual 68, 3) := by decide +kernel
theorem dX5_takeName_65 : decode cX5_takeName 65 = .ok (.ifCond .eq 5, 3) := by decide +kernel
theorem dX5_takeName_68 : decode cX5_takeName 68 = .ok (.iconst 4, 1) := by decide +kernel
theorem dX5_takeName_69 : decode cX5_takeName 69 = .ok (.ireturn, 1) := by decide +kernel
theorem dX5_takeName_70 : decode cX5_takeName 70 = .ok (.aload_n 0, 1) := by decide +kernel
theorem dX5_takeName_71 : decode cX5_takeName 71 = .ok (.getfield 35, 3) := by decide +kernel
theorem dX5_takeName_74 : decode cX5_takeName 74 = .ok (.ldc 158, 2) := by decide +kernel
theorem dX5_takeName_76 : decode cX5_takeName 76 = .ok (.invokevirtual 68, 3) := by decide +kernel
theorem dX5_takeName_79 : decode cX5_takeName 79 = .ok (.ifCond .eq 5, 3) := by decide +kernel
theorem dX5_takeName_82 : decode cX5_takeName 82 = .ok (.iconst 5, 1) := by decide +kernel
theorem dX5_takeName_83 : decode cX5_takeName 83 = .ok (.ireturn, 1) := by decide +kernel
theorem dX5_takeName_84 : decode cX5_takeName 84 = .ok (.aload_n 0, 1) := by decide +kernel
theorem dX5_takeName_85 : decode cX5_takeName 85 = .ok (.getfield 35, 3) := by decide +kernel
theorem dX5_takeName_88 : decode cX5_takeName 88 = .ok (.ldc 160, 2) := by decide +kernel
theorem dX5_takeName_90 : decode cX5_takeName 90 = .ok (.invokevirtual 68, 3) := by decide +kernel
theorem dX5_takeName_93 : decode cX5_takeName 93 = .ok (.ifCond .eq 6, 3) := by decide +kernel
theorem dX5_takeName_96 : decode cX5_takeName 96 = .ok (.bipush 6, 2) := by decide +kernel
theorem dX5_takeName_98 : decode cX5_takeName 98 = .ok (.ireturn, 1) := by decide +kernel
theorem dX5_takeName_99 : decode cX5_takeName 99 = .ok (.aload_n 0, 1) := by decide +kernel
theorem dX5_takeName_100 : decode cX5_takeName 100 = .ok (.getfield 35, 3) := by decide +kernel
theorem dX5_takeName_103 : decode cX5_takeName 103 = .ok (.ldc 162, 2) := by decide +kernel
theorem dX5_takeName_105 : decode cX5_takeName 105 = .ok (.invokevirtual 68, 3) := by decide +kernel
theorem dX5_takeName_108 : decode cX5_takeName 108 = .ok (.ifCond .eq 8, 3) := by decide +kernel
theorem dX5_takeName_111 : decode cX5_takeName 111 = .ok (.bipush 7, 2) := by decide +kernel
theorem dX5_takeName_113 : decode cX5_takeName 113 = .ok (.goto 4, 3) := by decide +kernel
theorem dX5_takeName_116 : decode cX5_takeName 116 = .ok (.iconst (-1), 1) := by decide +kernel
theorem dX5_takeName_117 : decode cX5_takeName 117 = .ok (.ireturn, 1) := by decide +kernel
theorem dX5_isRoomForOne_0 : decode cX5_isRoomForOne 0 = .ok (.aload_n 0, 1) := by decide +kernel
theorem dX5_isRoomForOne_1 : decode cX5_isRoomForOne 1 = .ok (.getfield 22, 3) := by decide +kernel
theorem dX5_isRoomForOne_4 : decode cX5_isRoomForOne 4 = .ok (.bipush 60, 2) := by decide +kernel
theorem dX5_isRoomForOne_6 : decode cX5_isRoomForOne 6 = .ok (.if_icmp .lt 19, 3) := by decide +kernel
theorem dX5_isRoomForOne_9 : decode cX5_isRoomForOne 9 = .ok (.aload_n 0, 1) := by decide +kernel
theorem dX5_isRoomForOne_10 : decode cX5_isRoomForOne 10 = .ok (.getfield 35, 3) := by decide +kernel
theorem dX5_isRoomForOne_13 : decode cX5_isRoomForOne 13 = .ok (.aload_n 0, 1) := by decide +kernel
theorem dX5_isRoomForOne_14 : decode cX5_isRoomForOne 14 = .ok (.getfield 35, 3) := by decide +kernel
theorem dX5_isRoomForOne_17 : decode cX5_isRoomForOne 17 = .ok (.getfield 72, 3) := by decide +kernel
theorem dX5_isRoomForOne_20 : decode cX5_isRoomForOne 20 = .ok (.iconst 3, 1) := by decide +kernel
theorem dX5_isRoomForOne_21 : decode cX5_isRoomForOne 21 = .ok (.invokevirtual 62, 3) := by decide +kernel
theorem dX5_isRoomForOne_24 : decode cX5_isRoomForOne 24 = .ok (.ireturn, 1) := by decide +kernel
theorem dX5_isRoomForOne_25 : decode cX5_isRoomForOne 25 = .ok (.aload_n 0, 1) := by decide +kernel
theorem dX5_isRoomForOne_26 : decode cX5_isRoomForOne 26 = .ok (.dup, 1) := by decide +kernel
theorem dX5_isRoomForOne_27 : decode cX5_isRoomForOne 27 = .ok (.getfield 22, 3) := by decide +kernel
theorem dX5_isRoomForOne_30 : decode cX5_isRoomForOne 30 = .ok (.iconst 1, 1) := by decide +kernel
theorem dX5_isRoomForOne_31 : decode cX5_isRoomForOne 31 = .ok (.iadd, 1) := by decide +kernel
theorem dX5_isRoomForOne_32 : decode cX5_isRoomForOne 32 = .ok (.putfield 22, 3) := by decide +kernel
theorem dX5_isRoomForOne_35 : decode cX5_isRoomForOne 35 = .ok (.iconst 1, 1) := by decide +kernel
theorem dX5_isRoomForOne_36 : decode cX5_isRoomForOne 36 = .ok (.ireturn, 1) := by decide +kernel
theorem dX6_init_0 : decode cX6_init 0 = .ok (.aload_n 0, 1) := by decide +kernel
theorem dX6_init_1 : decode cX6_init 1 = .ok (.invokespecial 1, 3) := by decide +kernel
theorem dX6_init_4 : decode cX6_init 4 = .ok (.aload_n 0, 1) := by decide +kernel
theorem dX6_init_5 : decode cX6_init 5 = .ok (.new 7, 3) := by decide +kernel
theorem dX6_init_8 : decode cX6_init 8 = .ok (.dup, 1) := by decide +kernel
theorem dX6_init_9 : decode cX6_init 9 = .ok (.invokespecial 9, 3) := by decide +kernel
theorem dX6_init_12 : decode cX6_init 12 = .ok (.putfield 10, 3) := by decide +kernel
theorem dX6_init_15 : decode cX6_init 15 = .ok (.aload_n 0, 1) := by decide +kernel
theorem dX6_init_16 : decode cX6_init 16 = .ok (.new 16, 3) := by decide +kernel
theorem dX6_init_19 : decode cX6_init 19 = .ok (.dup, 1) := by decide +kernel
theorem dX6_init_20 : decode cX6_init 20 = .ok (.invokespecial 18, 3) := by decide +kernel
theorem dX6_init_23 : decode cX6_init 23 = .ok (.putfield 19, 3) := by decide +kernel
theorem dX6_init_26 : decode cX6_init 26 = .ok (.aload_n 0, 1) := by decide +kernel
theorem dX6_init_27 : decode cX6_init 27 = .ok (.new 23, 3) := by decide +kernel
theorem dX6_init_30 : decode cX6_init 30 = .ok (.dup, 1) := by decide +kernel
theorem dX6_init_31 : decode cX6_init 31 = .ok (.invokespecial 25, 3) := by decide +kernel
theorem dX6_init_34 : decode cX6_init 34 = .ok (.putfield 26, 3) := by decide +kernel
theorem dX6_init_37 : decode cX6_init 37 = .ok (.aload_n 0, 1) := by decide +kernel
theorem dX6_init_38 : decode cX6_init 38 = .ok (.iconst 0, 1) := by decide +kernel
theorem dX6_init_39 : decode cX6_init 39 = .ok (.putfield 30, 3) := by decide +kernel
theorem dX6_init_42 : decode cX6_init 42 = .ok (.aload_n 0, 1) := by decide +kernel
theorem dX6_init_43 : decode cX6_init 43 = .ok (.iconst 0, 1) := by decide +kernel
theorem dX6_init_44 : decode cX6_init 44 = .ok (.putfield 34, 3) := by decide +kernel
theorem dX6_init_47 : decode cX6_init 47 = .ok (.return_, 1) := by decide +kernel
theorem dX6_copyFrom_0 : decode cX6_copyFrom 0 = .ok (.aload_n 0, 1) := by decide +kernel
theorem dX6_copyFrom_1 : decode cX6_copyFrom 1 = .ok (.getfield 10, 3) := by decide +kernel
theorem dX6_copyFrom_4 : decode cX6_copyFrom 4 = .ok (.aload_n 1, 1) := by decide +kernel
theorem dX6_copyFrom_5 : decode cX6_copyFrom 5 = .ok (.getfield 10, 3) := by decide +kernel
theorem dX6_copyFrom_8 : decode cX6_copyFrom 8 = .ok (.invokevirtual 38, 3) := by decide +kernel
theorem dX6_copyFrom_11 : decode cX6_copyFrom 11 = .ok (.aload_n 0, 1) := by decide +kernel
theorem dX6_copyFrom_12 : decode cX6_copyFrom 12 = .ok (.getfield 19, 3) := by decide +kernel
theorem dX6_copyFrom_15 : decode cX6_copyFrom 15 = .ok (.aload_n 1, 1) := by decide +kernel
theorem dX6_copyFrom_16 : decode cX6_copyFrom 16 = .ok (.getfield 19, 3) := by decide +kernel
theorem dX6_copyFrom_19 : decode cX6_copyFrom 19 = .ok (.invokevirtual 42, 3) := by decide +kernel
theorem dX6_copyFrom_22 : decode cX6_copyFrom 22 = .ok (.aload_n 0, 1) := by decide +kernel
theorem dX6_copyFrom_23 : decode cX6_copyFrom 23 = .ok (.getfield 26, 3) := by decide +kernel
theorem dX6_copyFrom_26 : decode cX6_copyFrom 26 = .ok (.aload_n 1, 1) := by decide +kernel
theorem dX6_copyFrom_27 : decode cX6_copyFrom 27 = .ok (.getfield 26, 3) := by decide +kernel
theorem dX6_copyFrom_30 : decode cX6_copyFrom 30 = .ok (.invokevirtual 45, 3) := by decide +kernel
theorem dX6_copyFrom_33 : decode cX6_copyFrom 33 = .ok (.aload_n 0, 1) := by decide +kernel
theorem dX6_copyFrom_34 : decode cX6_copyFrom 34 = .ok (.aload_n 1, 1) := by decide +kernel
theorem dX6_copyFrom_35 : decode cX6_copyFrom 35 = .ok (.getfield 30, 3) := by decide +kernel
theorem dX6_copyFrom_38 : decode cX6_copyFrom 38 = .ok (.putfield 30, 3) := by decide +kernel
theorem dX6_copyFrom_41 : decode cX6_copyFrom 41 = .ok (.return_, 1) := by decide +kernel
theorem dX6_draw_0 : decode cX6_draw 0 = .ok (.aload_n 0, 1) := by decide +kernel
theorem dX6_draw_1 : decode cX6_draw 1 = .ok (.aload_n 0, 1) := by decide +kernel
theorem dX6_draw_2 : decode cX6_draw 2 = .ok (.getfield 30, 3) := by decide +kernel
theorem dX6_draw_5 : decode cX6_draw 5 = .ok (.i2l, 1) := by decide +kernel
theorem dX6_draw_6 : decode cX6_draw 6 = .ok (.ldc2_w 48, 3) := by decide +kernel
theorem dX6_draw_9 : decode cX6_draw 9 = .ok (.lmul, 1) := by decide +kernel
theorem dX6_draw_10 : decode cX6_draw 10 = .ok (.ldc2_w 50, 3) := by decide +kernel
theorem dX6_draw_13 : decode cX6_draw 13 = .ok (.ladd, 1) := by decide +kernel
theorem dX6_draw_14 : decode cX6_draw 14 = .ok (.ldc2_w 52, 3) := by decide +kernel
theorem dX6_draw_17 : decode cX6_draw 17 = .ok (.land, 1) := by decide +kernel
theorem dX6_draw_18 : decode cX6_draw 18 = .ok (.l2i, 1) := by decide +kernel
theorem dX6_draw_19 : decode cX6_draw 19 = .ok (.putfield 30, 3) := by decide +kernel
theorem dX6_draw_22 : decode cX6_draw 22 = .ok (.aload_n 0, 1) := by decide +kernel
theorem dX6_draw_23 : decode cX6_draw 23 = .ok (.getfield 30, 3) := by decide +kernel
theorem dX6_draw_26 : decode cX6_draw 26 = .ok (.ldc 54, 2) := by decide +kernel
theorem dX6_draw_28 : decode cX6_draw 28 = .ok (.idiv, 1) := by decide +kernel
theorem dX6_draw_29 : decode cX6_draw 29 = .ok (.ireturn, 1) := by decide +kernel
theorem dX7_init_0 : decode cX7_init 0 = .ok (.aload_n 0, 1) := by decide +kernel
theorem dX7_init_1 : decode cX7_init 1 = .ok (.invokespecial 3, 3) := by decide +kernel
theorem dX7_init_4 : decode cX7_init 4 = .ok (.aload_n 0, 1) := by decide +kernel
theorem dX7_init_5 : decode cX7_init 5 = .ok (.sipush 400, 3) := by decide +kernel
theorem dX7_init_8 : decode cX7_init 8 = .ok (.newarray .byte, 2) := by decide +kernel
theorem dX7_init_10 : decode cX7_init 10 = .ok (.putfield 9, 3) := by decide +kernel
theorem dX7_init_13 : decode cX7_init 13 = .ok (.aload_n 0, 1) := by decide +kernel
theorem dX7_init_14 : decode cX7_init 14 = .ok (.iconst 0, 1) := by decide +kernel
theorem dX7_init_15 : decode cX7_init 15 = .ok (.putfield 15, 3) := by decide +kernel
theorem dX7_init_18 : decode cX7_init 18 = .ok (.aload_n 0, 1) := by decide +kernel
theorem dX7_init_19 : decode cX7_init 19 = .ok (.iconst 0, 1) := by decide +kernel
theorem dX7_init_20 : decode cX7_init 20 = .ok (.putfield 19, 3) := by decide +kernel
theorem dX7_init_23 : decode cX7_init 23 = .ok (.aload_n 0, 1) := by decide +kernel
theorem dX7_init_24 : decode cX7_init 24 = .ok (.iconst 0, 1) := by decide +kernel
theorem dX7_init_25 : decode cX7_init 25 = .ok (.putfield 22, 3) := by decide +kernel
theorem dX7_init_28 : decode cX7_init 28 = .ok (.aload_n 0, 1) := by decide +kernel
theorem dX7_init_29 : decode cX7_init 29 = .ok (.iconst 0, 1) := by decide +kernel
theorem dX7_init_30 : decode cX7_init 30 = .ok (.putfield 25, 3) := by decide +kernel
theorem dX7_init_33 : decode cX7_init 33 = .ok (.return_, 1) := by decide +kernel
theorem dX7_put_0 : decode cX7_put 0 = .ok (.bipush 24, 2) := by decide +kernel
theorem dX7_put_2 : decode cX7_put 2 = .ok (.istore_n 2, 1) := by decide +kernel
theorem dX7_put_3 : decode cX7_put 3 = .ok (.iload_n 2, 1) := by decide +kernel
theorem dX7_put_4 : decode cX7_put 4 = .ok (.ifCond .lt 42, 3) := by decide +kernel
theorem dX7_put_7 : decode cX7_put 7 = .ok (.aload_n 0, 1) := by decide +kernel
theorem dX7_put_8 : decode cX7_put 8 = .ok (.getfield 15, 3) := by decide +kernel
theorem dX7_put_11 : decode cX7_put 11 = .ok (.sipush 400, 3) := by decide +kernel
theorem dX7_put_14 : decode cX7_put 14 = .ok (.if_icmp .ge 26, 3) := by decide +kernel
theorem dX7_put_17 : decode cX7_put 17 = .ok (.aload_n 0, 1) := by decide +kernel
theorem dX7_put_18 : decode cX7_put 18 = .ok (.getfield 9, 3) := by decide +kernel
theorem dX7_put_21 : decode cX7_put 21 = .ok (.aload_n 0, 1) := by decide +kernel
theorem dX7_put_22 : decode cX7_put 22 = .ok (.getfield 15, 3) := by decide +kernel
theorem dX7_put_25 : decode cX7_put 25 = .ok (.iload_n 1, 1) := by decide +kernel
theorem dX7_put_26 : decode cX7_put 26 = .ok (.iload_n 2, 1) := by decide +kernel
theorem dX7_put_27 : decode cX7_put 27 = .ok (.ishr, 1) := by decide +kernel
theorem dX7_put_28 : decode cX7_put 28 = .ok (.i2b, 1) := by decide +kernel
theorem dX7_put_29 : decode cX7_put 29 = .ok (.bastore, 1) := by decide +kernel
theorem dX7_put_30 : decode cX7_put 30 = .ok (.aload_n 0, 1) := by decide +kernel
theorem dX7_put_31 : decode cX7_put 31 = .ok (.dup, 1) := by decide +kernel
theorem dX7_put_32 : decode cX7_put 32 = .ok (.getfield 15, 3) := by decide +kernel
theorem dX7_put_35 : decode cX7_put 35 = .ok (.iconst 1, 1) := by decide +kernel
theorem dX7_put_36 : decode cX7_put 36 = .ok (.iadd, 1) := by decide +kernel
theorem dX7_put_37 : decode cX7_put 37 = .ok (.putfield 15, 3) := by decide +kernel
theorem dX7_put_40 : decode cX7_put 40 = .ok (.iinc 2 (-8), 3) := by decide +kernel
theorem dX7_put_43 : decode cX7_put 43 = .ok (.goto (-40), 3) := by decide +kernel
theorem dX7_put_46 : decode cX7_put 46 = .ok (.return_, 1) := by decide +kernel
theorem dX7_rewind_0 : decode cX7_rewind 0 = .ok (.aload_n 0, 1) := by decide +kernel
theorem dX7_rewind_1 : decode cX7_rewind 1 = .ok (.iconst 0, 1) := by decide +kernel
theorem dX7_rewind_2 : decode cX7_rewind 2 = .ok (.putfield 19, 3) := by decide +kernel
theorem dX7_rewind_5 : decode cX7_rewind 5 = .ok (.aload_n 0, 1) := by decide +kernel
theorem dX7_rewind_6 : decode cX7_rewind 6 = .ok (.iconst 0, 1) := by decide +kernel
theorem dX7_rewind_7 : decode cX7_rewind 7 = .ok (.putfield 22, 3) := by decide +kernel
theorem dX7_rewind_10 : decode cX7_rewind 10 = .ok (.aload_n 0, 1) := by decide +kernel
theorem dX7_rewind_11 : decode cX7_rewind 11 = .ok (.iconst 0, 1) := by decide +kernel
theorem dX7_rewind_12 : decode cX7_rewind 12 = .ok (.putfield 25, 3) := by decide +kernel
theorem dX7_rewind_15 : decode cX7_rewind 15 = .ok (.return_, 1) := by decide +kernel
theorem dX7_fail_0 : decode cX7_fail 0 = .ok (.aload_n 0, 1) := by decide +kernel
theorem dX7_fail_1 : decode cX7_fail 1 = .ok (.iconst 1, 1) := by decide +kernel
theorem dX7_fail_2 : decode cX7_fail 2 = .ok (.bipush 8, 2) := by decide +kernel
theorem dX7_fail_4 : decode cX7_fail 4 = .ok (.iload_n 1, 1) := by decide +kernel
theorem dX7_fail_5 : decode cX7_fail 5 = .ok (.imul, 1) := by decide +kernel
theorem dX7_fail_6 : decode cX7_fail 6 = .ok (.iadd, 1) := by decide +kernel
theorem dX7_fail_7 : decode cX7_fail 7 = .ok (.iload_n 2, 1) := by decide +kernel
theorem dX7_fail_8 : decode cX7_fail 8 = .ok (.iadd, 1) := by decide +kernel
theorem dX7_fail_9 : decode cX7_fail 9 = .ok (.putfield 25, 3) := by decide +kernel
theorem dX7_fail_12 : decode cX7_fail 12 = .ok (.iconst 0, 1) := by decide +kernel
theorem dX7_fail_13 : decode cX7_fail 13 = .ok (.ireturn, 1) := by decide +kernel
theorem dX7_byteAt_0 : decode cX7_byteAt 0 = .ok (.iload_n 1, 1) := by decide +kernel
theorem dX7_byteAt_1 : decode cX7_byteAt 1 = .ok (.ifCond .lt 27, 3) := by decide +kernel
theorem dX7_byteAt_4 : decode cX7_byteAt 4 = .ok (.iload_n 1, 1) := by decide +kernel
theorem dX7_byteAt_5 : decode cX7_byteAt 5 = .ok (.aload_n 0, 1) := by decide +kernel
theorem dX7_byteAt_6 : decode cX7_byteAt 6 = .ok (.getfield 15, 3) := by decide +kernel
theorem dX7_byteAt_9 : decode cX7_byteAt 9 = .ok (.if_icmp .ge 19, 3) := by decide +kernel
theorem dX7_byteAt_12 : decode cX7_byteAt 12 = .ok (.iload_n 1, 1) := by decide +kernel
theorem dX7_byteAt_13 : decode cX7_byteAt 13 = .ok (.sipush 400, 3) := by decide +kernel
theorem dX7_byteAt_16 : decode cX7_byteAt 16 = .ok (.if_icmp .ge 12, 3) := by decide +kernel
theorem dX7_byteAt_19 : decode cX7_byteAt 19 = .ok (.aload_n 0, 1) := by decide +kernel
theorem dX7_byteAt_20 : decode cX7_byteAt 20 = .ok (.getfield 9, 3) := by decide +kernel
theorem dX7_byteAt_23 : decode cX7_byteAt 23 = .ok (.iload_n 1, 1) := by decide +kernel
theorem dX7_byteAt_24 : decode cX7_byteAt 24 = .ok (.baload, 1) := by decide +kernel
theorem dX7_byteAt_25 : decode cX7_byteAt 25 = .ok (.goto 4, 3) := by decide +kernel
theorem dX7_byteAt_28 : decode cX7_byteAt 28 = .ok (.iconst (-1), 1) := by decide +kernel
theorem dX7_byteAt_29 : decode cX7_byteAt 29 = .ok (.ireturn, 1) := by decide +kernel
theorem dX7_isDigitAt_0 : decode cX7_isDigitAt 0 = .ok (.aload_n 0, 1) := by decide +kernel
theorem dX7_isDigitAt_1 : decode cX7_isDigitAt 1 = .ok (.iload_n 1, 1) := by decide +kernel
theorem dX7_isDigitAt_2 : decode cX7_isDigitAt 2 = .ok (.invokevirtual 28, 3) := by decide +kernel
theorem dX7_isDigitAt_5 : decode cX7_isDigitAt 5 = .ok (.istore_n 2, 1) := by decide +kernel
theorem dX7_isDigitAt_6 : decode cX7_isDigitAt 6 = .ok (.iload_n 2, 1) := by decide +kernel
theorem dX7_isDigitAt_7 : decode cX7_isDigitAt 7 = .ok (.bipush 48, 2) := by decide +kernel
theorem dX7_isDigitAt_9 : decode cX7_isDigitAt 9 = .ok (.if_icmp .lt 13, 3) := by decide +kernel
theorem dX7_isDigitAt_12 : decode cX7_isDigitAt 12 = .ok (.iload_n 2, 1) := by decide +kernel
theorem dX7_isDigitAt_13 : decode cX7_isDigitAt 13 = .ok (.bipush 57, 2) := by decide +kernel
theorem dX7_isDigitAt_15 : decode cX7_isDigitAt 15 = .ok (.if_icmp .gt 7, 3) := by decide +kernel
theorem dX7_isDigitAt_18 : decode cX7_isDigitAt 18 = .ok (.iconst 1, 1) := by decide +kernel
theorem dX7_isDigitAt_19 : decode cX7_isDigitAt 19 = .ok (.goto 4, 3) := by decide +kernel
theorem dX7_isDigitAt_22 : decode cX7_isDigitAt 22 = .ok (.iconst 0, 1) := by decide +kernel
theorem dX7_isDigitAt_23 : decode cX7_isDigitAt 23 = .ok (.ireturn, 1) := by decide +kernel
theorem dX7_skipBlanks_0 : decode cX7_skipBlanks 0 = .ok (.aload_n 0, 1) := by decide +kernel
theorem dX7_skipBlanks_1 : decode cX7_skipBlanks 1 = .ok (.getfield 19, 3) := by decide +kernel
theorem dX7_skipBlanks_4 : decode cX7_skipBlanks 4 = .ok (.aload_n 0, 1) := by decide +kernel
theorem dX7_skipBlanks_5 : decode cX7_skipBlanks 5 = .ok (.getfield 15, 3) := by decide +kernel
theorem dX7_skipBlanks_8 : decode cX7_skipBlanks 8 = .ok (.if_icmp .ge 40, 3) := by decide +kernel
theorem dX7_skipBlanks_11 : decode cX7_skipBlanks 11 = .ok (.aload_n 0, 1) := by decide +kernel
theorem dX7_skipBlanks_12 : decode cX7_skipBlanks 12 = .ok (.getfield 19, 3) := by decide +kernel
theorem dX7_skipBlanks_15 : decode cX7_skipBlanks 15 = .ok (.sipush 400, 3) := by decide +kernel
theorem dX7_skipBlanks_18 : decode cX7_skipBlanks 18 = .ok (.if_icmp .ge 30, 3) := by decide +kernel
theorem dX7_skipBlanks_21 : decode cX7_skipBlanks 21 = .ok (.aload_n 0, 1) := by decide +kernel
theorem dX7_skipBlanks_22 : decode cX7_skipBlanks 22 = .ok (.getfield 9, 3) := by decide +kernel
theorem dX7_skipBlanks_25 : decode cX7_skipBlanks 25 = .ok (.aload_n 0, 1) := by decide +kernel
theorem dX7_skipBlanks_26 : decode cX7_skipBlanks 26 = .ok (.getfield 19, 3) := by decide +kernel
theorem dX7_skipBlanks_29 : decode cX7_skipBlanks 29 = .ok (.baload, 1) := by decide +kernel
theorem dX7_skipBlanks_30 : decode cX7_skipBlanks 30 = .ok (.bipush 32, 2) := by decide +kernel
theorem dX7_skipBlanks_32 : decode cX7_skipBlanks 32 = .ok (.if_icmp .ne 16, 3) := by decide +kernel
theorem dX7_skipBlanks_35 : decode cX7_skipBlanks 35 = .ok (.aload_n 0, 1) := by decide +kernel
theorem dX7_skipBlanks_36 : decode cX7_skipBlanks 36 = .ok (.dup, 1) := by decide +kernel
theorem dX7_skipBlanks_37 : decode cX7_skipBlanks 37 = .ok (.getfield 19, 3) := by decide +kernel
theorem dX7_skipBlanks_40 : decode cX7_skipBlanks 40 = .ok (.iconst 1, 1) := by decide +kernel
theorem dX7_skipBlanks_41 : decode cX7_skipBlanks 41 = .ok (.iadd, 1) := by decide +kernel
theorem dX7_skipBlanks_42 : decode cX7_skipBlanks 42 = .ok (.putfield 19, 3) := by decide +kernel
theorem dX7_skipBlanks_45 : decode cX7_skipBlanks 45 = .ok (.goto (-45), 3) := by decide +kernel
theorem dX7_skipBlanks_48 : decode cX7_skipBlanks 48 = .ok (.return_, 1) := by decide +kernel
theorem dX7_isAtEnd_0 : decode cX7_isAtEnd 0 = .ok (.aload_n 0, 1) := by decide +kernel
theorem dX7_isAtEnd_1 : decode cX7_isAtEnd 1 = .ok (.invokevirtual 32, 3) := by decide +kernel
theorem dX7_isAtEnd_4 : decode cX7_isAtEnd 4 = .ok (.aload_n 0, 1) := by decide +kernel
theorem dX7_isAtEnd_5 : decode cX7_isAtEnd 5 = .ok (.getfield 19, 3) := by decide +kernel
theorem dX7_isAtEnd_8 : decode cX7_isAtEnd 8 = .ok (.aload_n 0, 1) := by decide +kernel
theorem dX7_isAtEnd_9 : decode cX7_isAtEnd 9 = .ok (.getfield 15, 3) := by decide +kernel
theorem dX7_isAtEnd_12 : decode cX7_isAtEnd 12 = .ok (.if_icmp .lt 7, 3) := by decide +kernel
theorem dX7_isAtEnd_15 : decode cX7_isAtEnd 15 = .ok (.iconst 1, 1) := by decide +kernel
theorem dX7_isAtEnd_16 : decode cX7_isAtEnd 16 = .ok (.goto 4, 3) := by decide +kernel
theorem dX7_isAtEnd_19 : decode cX7_isAtEnd 19 = .ok (.iconst 0, 1) := by decide +kernel
theorem dX7_isAtEnd_20 : decode cX7_isAtEnd 20 = .ok (.ireturn, 1) := by decide +kernel
theorem dX7_takeSign_0 : decode cX7_takeSign 0 = .ok (.aload_n 0, 1) := by decide +kernel
theorem dX7_takeSign_1 : decode cX7_takeSign 1 = .ok (.invokevirtual 32, 3) := by decide +kernel
theorem dX7_takeSign_4 : decode cX7_takeSign 4 = .ok (.aload_n 0, 1) := by decide +kernel
theorem dX7_takeSign_5 : decode cX7_takeSign 5 = .ok (.aload_n 0, 1) := by decide +kernel
theorem dX7_takeSign_6 : decode cX7_takeSign 6 = .ok (.getfield 19, 3) := by decide +kernel
theorem dX7_takeSign_9 : decode cX7_takeSign 9 = .ok (.invokevirtual 28, 3) := by decide +kernel
theorem dX7_takeSign_12 : decode cX7_takeSign 12 = .ok (.iload_n 1, 1) := by decide +kernel
theorem dX7_takeSign_13 : decode cX7_takeSign 13 = .ok (.if_icmp .eq 5, 3) := by decide +kernel
theorem dX7_takeSign_16 : decode cX7_takeSign 16 = .ok (.iconst 0, 1) := by decide +kernel
theorem dX7_takeSign_17 : decode cX7_takeSign 17 = .ok (.ireturn, 1) := by decide +kernel
theorem dX7_takeSign_18 : decode cX7_takeSign 18 = .ok (.aload_n 0, 1) := by decide +kernel
theorem dX7_takeSign_19 : decode cX7_takeSign 19 = .ok (.aload_n 0, 1) := by decide +kernel
theorem dX7_takeSign_20 : decode cX7_takeSign 20 = .ok (.getfield 19, 3) := by decide +kernel
theorem dX7_takeSign_23 : decode cX7_takeSign 23 = .ok (.putfield 22, 3) := by decide +kernel
theorem dX7_takeSign_26 : decode cX7_takeSign 26 = .ok (.aload_n 0, 1) := by decide +kernel
theorem dX7_takeSign_27 : decode cX7_takeSign 27 = .ok (.dup, 1) := by decide +kernel
theorem dX7_takeSign_28 : decode cX7_takeSign 28 = .ok (.getfield 19, 3) := by decide +kernel
theorem dX7_takeSign_31 : decode cX7_takeSign 31 = .ok (.iconst 1, 1) := by decide +kernel
theorem dX7_takeSign_32 : decode cX7_takeSign 32 = .ok (.iadd, 1) := by decide +kernel
theorem dX7_takeSign_33 : decode cX7_takeSign 33 = .ok (.putfield 19, 3) := by decide +kernel
theorem dX7_takeSign_36 : decode cX7_takeSign 36 = .ok (.iconst 1, 1) := by decide +kernel
theorem dX7_takeSign_37 : decode cX7_takeSign 37 = .ok (.ireturn, 1) := by decide +kernel
theorem dX7_takeWord_0 : decode cX7_takeWord 0 = .ok (.aload_n 0, 1) := by decide +kernel
theorem dX7_takeWord_1 : decode cX7_takeWord 1 = .ok (.invokevirtual 32, 3) := by decide +kernel
theorem dX7_takeWord_4 : decode cX7_takeWord 4 = .ok (.aload_n 1, 1) := by decide +kernel
theorem dX7_takeWord_5 : decode cX7_takeWord 5 = .ok (.invokevirtual 35, 3) := by decide +kernel
theorem dX7_takeWord_8 : decode cX7_takeWord 8 = .ok (.istore_n 2, 1) := by decide +kernel
theorem dX7_takeWord_9 : decode cX7_takeWord 9 = .ok (.iconst 0, 1) := by decide +kernel
theorem dX7_takeWord_10 : decode cX7_takeWord 10 = .ok (.istore_n 3, 1) := by decide +kernel
theorem dX7_takeWord_11 : decode cX7_takeWord 11 = .ok (.iload_n 3, 1) := by decide +kernel
theorem dX7_takeWord_12 : decode cX7_takeWord 12 = .ok (.iload_n 2, 1) := by decide +kernel
theorem dX7_takeWord_13 : decode cX7_takeWord 13 = .ok (.if_icmp .ge 29, 3) := by decide +kernel
theorem dX7_takeWord_16 : decode cX7_takeWord 16 = .ok (.aload_n 0, 1) := by decide +kernel
theorem dX7_takeWord_17 : decode cX7_takeWord 17 = .ok (.aload_n 0, 1) := by decide +kernel
theorem dX7_takeWord_18 : decode cX7_takeWord 18 = .ok (.getfield 19, 3) := by decide +kernel
theorem dX7_takeWord_21 : decode cX7_takeWord 21 = .ok (.iload_n 3, 1) := by decide +kernel
theorem dX7_takeWord_22 : decode cX7_takeWord 22 = .ok (.iadd, 1) := by decide +kernel
theorem dX7_takeWord_23 : decode cX7_takeWord 23 = .ok (.invokevirtual 28, 3) := by decide +kernel
theorem dX7_takeWord_26 : decode cX7_takeWord 26 = .ok (.aload_n 1, 1) := by decide +kernel
theorem dX7_takeWord_27 : decode cX7_takeWord 27 = .ok (.iload_n 3, 1) := by decide +kernel
theorem dX7_takeWord_28 : decode cX7_takeWord 28 = .ok (.invokevirtual 41, 3) := by decide +kernel
theorem dX7_takeWord_31 : decode cX7_takeWord 31 = .ok (.if_icmp .eq 5, 3) := by decide +kernel
theorem dX7_takeWord_34 : decode cX7_takeWord 34 = .ok (.iconst 0, 1) := by decide +kernel
theorem dX7_takeWord_35 : decode cX7_takeWord 35 = .ok (.ireturn, 1) := by decide +kernel
theorem dX7_takeWord_36 : decode cX7_takeWord 36 = .ok (.iinc 3 1, 3) := by decide +kernel
theorem dX7_takeWord_39 : decode cX7_takeWord 39 = .ok (.goto (-28), 3) := by decide +kernel
theorem dX7_takeWord_42 : decode cX7_takeWord 42 = .ok (.aload_n 0, 1) := by decide +kernel
theorem dX7_takeWord_43 : decode cX7_takeWord 43 = .ok (.aload_n 0, 1) := by decide +kernel
theorem dX7_takeWord_44 : decode cX7_takeWord 44 = .ok (.getfield 19, 3) := by decide +kernel
theorem dX7_takeWord_47 : decode cX7_takeWord 47 = .ok (.iload_n 2, 1) := by decide +kernel
theorem dX7_takeWord_48 : decode cX7_takeWord 48 = .ok (.iadd, 1) := by decide +kernel
theorem dX7_takeWord_49 : decode cX7_takeWord 49 = .ok (.invokevirtual 28, 3) := by decide +kernel
theorem dX7_takeWord_52 : decode cX7_takeWord 52 = .ok (.istore_n 3, 1) := by decide +kernel
theorem dX7_takeWord_53 : decode cX7_takeWord 53 = .ok (.iload_n 3, 1) := by decide +kernel
theorem dX7_takeWord_54 : decode cX7_takeWord 54 = .ok (.bipush 97, 2) := by decide +kernel
theorem dX7_takeWord_56 : decode cX7_takeWord 56 = .ok (.if_icmp .lt 11, 3) := by decide +kernel
theorem dX7_takeWord_59 : decode cX7_takeWord 59 = .ok (.iload_n 3, 1) := by decide +kernel
theorem dX7_takeWord_60 : decode cX7_takeWord 60 = .ok (.bipush 122, 2) := by decide +kernel
theorem dX7_takeWord_62 : decode cX7_takeWord 62 = .ok (.if_icmp .gt 5, 3) := by decide +kernel
theorem dX7_takeWord_65 : decode cX7_takeWord 65 = .ok (.iconst 0, 1) := by decide +kernel
theorem dX7_takeWord_66 : decode cX7_takeWord 66 = .ok (.ireturn, 1) := by decide +kernel
theorem dX7_takeWord_67 : decode cX7_takeWord 67 = .ok (.aload_n 0, 1) := by decide +kernel
theorem dX7_takeWord_68 : decode cX7_takeWord 68 = .ok (.aload_n 0, 1) := by decide +kernel
theorem dX7_takeWord_69 : decode cX7_takeWord 69 = .ok (.getfield 19, 3) := by decide +kernel
theorem dX7_takeWord_72 : decode cX7_takeWord 72 = .ok (.putfield 22, 3) := by decide +kernel
theorem dX7_takeWord_75 : decode cX7_takeWord 75 = .ok (.aload_n 0, 1) := by decide +kernel
theorem dX7_takeWord_76 : decode cX7_takeWord 76 = .ok (.dup, 1) := by decide +kernel
theorem dX7_takeWord_77 : decode cX7_takeWord 77 = .ok (.getfield 19, 3) := by decide +kernel
theorem dX7_takeWord_80 : decode cX7_takeWord 80 = .ok (.iload_n 2, 1) := by decide +kernel
theorem dX7_takeWord_81 : decode cX7_takeWord 81 = .ok (.iadd, 1) := by decide +kernel
theorem dX7_takeWord_82 : decode cX7_takeWord 82 = .ok (.putfield 19, 3) := by decide +kernel
theorem dX7_takeWord_85 : decode cX7_takeWord 85 = .ok (.iconst 1, 1) := by decide +kernel
theorem dX7_takeWord_86 : decode cX7_takeWord 86 = .ok (.ireturn, 1) := by decide +kernel
theorem dX7_takeNumber_0 : decode cX7_takeNumber 0 = .ok (.aload_n 0, 1) := by decide +kernel
theorem dX7_takeNumber_1 : decode cX7_takeNumber 1 = .ok (.invokevirtual 32, 3) := by decide +kernel
theorem dX7_takeNumber_4 : decode cX7_takeNumber 4 = .ok (.aload_n 0, 1) := by decide +kernel
theorem dX7_takeNumber_5 : decode cX7_takeNumber 5 = .ok (.aload_n 0, 1) := by decide +kernel
theorem dX7_takeNumber_6 : decode cX7_takeNumber 6 = .ok (.getfield 19, 3) := by decide +kernel
theorem dX7_takeNumber_9 : decode cX7_takeNumber 9 = .ok (.putfield 22, 3) := by decide +kernel
theorem dX7_takeNumber_12 : decode cX7_takeNumber 12 = .ok (.iconst 0, 1) := by decide +kernel
theorem dX7_takeNumber_13 : decode cX7_takeNumber 13 = .ok (.istore_n 3, 1) := by decide +kernel
theorem dX7_takeNumber_14 : decode cX7_takeNumber 14 = .ok (.aload_n 0, 1) := by decide +kernel
theorem dX7_takeNumber_15 : decode cX7_takeNumber 15 = .ok (.getfield 19, 3) := by decide +kernel
theorem dX7_takeNumber_18 : decode cX7_takeNumber 18 = .ok (.aload_n 0, 1) := by decide +kernel
theorem dX7_takeNumber_19 : decode cX7_takeNumber 19 = .ok (.getfield 15, 3) := by decide +kernel
theorem dX7_takeNumber_22 : decode cX7_takeNumber 22 = .ok (.if_icmp .ge 57, 3) := by decide +kernel
theorem dX7_takeNumber_25 : decode cX7_takeNumber 25 = .ok (.aload_n 0, 1) := by decide +kernel
theorem dX7_takeNumber_26 : decode cX7_takeNumber 26 = .ok (.aload_n 0, 1) := by decide +kernel
theorem dX7_takeNumber_27 : decode cX7_takeNumber 27 = .ok (.getfield 19, 3) := by decide +kernel
theorem dX7_takeNumber_30 : decode cX7_takeNumber 30 = .ok (.invokevirtual 45, 3) := by decide +kernel
theorem dX7_takeNumber_33 : decode cX7_takeNumber 33 = .ok (.ifCond .eq 46, 3) := by decide +kernel
theorem dX7_takeNumber_36 : decode cX7_takeNumber 36 = .ok (.aload_n 0, 1) := by decide +kernel
theorem dX7_takeNumber_37 : decode cX7_takeNumber 37 = .ok (.getfield 19, 3) := by decide +kernel
theorem dX7_takeNumber_40 : decode cX7_takeNumber 40 = .ok (.aload_n 0, 1) := by decide +kernel
theorem dX7_takeNumber_41 : decode cX7_takeNumber 41 = .ok (.getfield 22, 3) := by decide +kernel
theorem dX7_takeNumber_44 : decode cX7_takeNumber 44 = .ok (.isub, 1) := by decide +kernel
theorem dX7_takeNumber_45 : decode cX7_takeNumber 45 = .ok (.iconst 5, 1) := by decide +kernel
theorem dX7_takeNumber_46 : decode cX7_takeNumber 46 = .ok (.if_icmp .ge 20, 3) := by decide +kernel
theorem dX7_takeNumber_49 : decode cX7_takeNumber 49 = .ok (.iload_n 3, 1) := by decide +kernel
theorem dX7_takeNumber_50 : decode cX7_takeNumber 50 = .ok (.bipush 10, 2) := by decide +kernel
theorem dX7_takeNumber_52 : decode cX7_takeNumber 52 = .ok (.imul, 1) := by decide +kernel
theorem dX7_takeNumber_53 : decode cX7_takeNumber 53 = .ok (.aload_n 0, 1) := by decide +kernel
theorem dX7_takeNumber_54 : decode cX7_takeNumber 54 = .ok (.aload_n 0, 1) := by decide +kernel
theorem dX7_takeNumber_55 : decode cX7_takeNumber 55 = .ok (.getfield 19, 3) := by decide +kernel
theorem dX7_takeNumber_58 : decode cX7_takeNumber 58 = .ok (.invokevirtual 28, 3) := by decide +kernel
theorem dX7_takeNumber_61 : decode cX7_takeNumber 61 = .ok (.iadd, 1) := by decide +kernel
theorem dX7_takeNumber_62 : decode cX7_takeNumber 62 = .ok (.bipush 48, 2) := by decide +kernel
theorem dX7_takeNumber_64 : decode cX7_takeNumber 64 = .ok (.isub, 1) := by decide +kernel
theorem dX7_takeNumber_65 : decode cX7_takeNumber 65 = .ok (.istore_n 3, 1) := by decide +kernel
theorem dX7_takeNumber_66 : decode cX7_takeNumber 66 = .ok (.aload_n 0, 1) := by decide +kernel
theorem dX7_takeNumber_67 : decode cX7_takeNumber 67 = .ok (.dup, 1) := by decide +kernel
theorem dX7_takeNumber_68 : decode cX7_takeNumber 68 = .ok (.getfield 19, 3) := by decide +kernel
theorem dX7_takeNumber_71 : decode cX7_takeNumber 71 = .ok (.iconst 1, 1) := by decide +kernel
theorem dX7_takeNumber_72 : decode cX7_takeNumber 72 = .ok (.iadd, 1) := by decide +kernel
theorem dX7_takeNumber_73 : decode cX7_takeNumber 73 = .ok (.putfield 19, 3) := by decide +kernel
theorem dX7_takeNumber_76 : decode cX7_takeNumber 76 = .ok (.goto (-62), 3) := by decide +kernel
theorem dX7_takeNumber_79 : decode cX7_takeNumber 79 = .ok (.aload_n 0, 1) := by decide +kernel
theorem dX7_takeNumber_80 : decode cX7_takeNumber 80 = .ok (.getfield 19, 3) := by decide +kernel
theorem dX7_takeNumber_83 : decode cX7_takeNumber 83 = .ok (.aload_n 0, 1) := by decide +kernel
theorem dX7_takeNumber_84 : decode cX7_takeNumber 84 = .ok (.getfield 22, 3) := by decide +kernel
theorem dX7_takeNumber_87 : decode cX7_takeNumber 87 = .ok (.if_icmp .ne 15, 3) := by decide +kernel
theorem dX7_takeNumber_90 : decode cX7_takeNumber 90 = .ok (.aload_n 0, 1) := by decide +kernel
theorem dX7_takeNumber_91 : decode cX7_takeNumber 91 = .ok (.aload_n 0, 1) := by decide +kernel
theorem dX7_takeNumber_92 : decode cX7_takeNumber 92 = .ok (.getfield 22, 3) := by decide +kernel
theorem dX7_takeNumber_95 : decode cX7_takeNumber 95 = .ok (.iconst 0, 1) := by decide +kernel
theorem dX7_takeNumber_96 : decode cX7_takeNumber 96 = .ok (.invokevirtual 49, 3) := by decide +kernel
theorem dX7_takeNumber_99 : decode cX7_takeNumber 99 = .ok (.pop, 1) := by decide +kernel
theorem dX7_takeNumber_100 : decode cX7_takeNumber 100 = .ok (.iconst (-1), 1) := by decide +kernel
theorem dX7_takeNumber_101 : decode cX7_takeNumber 101 = .ok (.ireturn, 1) := by decide +kernel
theorem dX7_takeNumber_102 : decode cX7_takeNumber 102 = .ok (.aload_n 0, 1) := by decide +kernel
theorem dX7_takeNumber_103 : decode cX7_takeNumber 103 = .ok (.getfield 19, 3) := by decide +kernel
theorem dX7_takeNumber_106 : decode cX7_takeNumber 106 = .ok (.aload_n 0, 1) := by decide +kernel
theorem dX7_takeNumber_107 : decode cX7_takeNumber 107 = .ok (.getfield 22, 3) := by decide +kernel
theorem dX7_takeNumber_110 : decode cX7_takeNumber 110 = .ok (.isub, 1) := by decide +kernel
theorem dX7_takeNumber_111 : decode cX7_takeNumber 111 = .ok (.iconst 5, 1) := by decide +kernel
theorem dX7_takeNumber_112 : decode cX7_takeNumber 112 = .ok (.if_icmp .gt 12, 3) := by decide +kernel
theorem dX7_takeNumber_115 : decode cX7_takeNumber 115 = .ok (.iload_n 3, 1) := by decide +kernel
theorem dX7_takeNumber_116 : decode cX7_takeNumber 116 = .ok (.iload_n 1, 1) := by decide +kernel
theorem dX7_takeNumber_117 : decode cX7_takeNumber 117 = .ok (.iload_n 2, 1) := by decide +kernel
theorem dX7_takeNumber_118 : decode cX7_takeNumber 118 = .ok (.invokestatic 53, 3) := by decide +kernel
theorem dX7_takeNumber_121 : decode cX7_takeNumber 121 = .ok (.ifCond .ne 15, 3) := by decide +kernel
theorem dX7_takeNumber_124 : decode cX7_takeNumber 124 = .ok (.aload_n 0, 1) := by decide +kernel
theorem dX7_takeNumber_125 : decode cX7_takeNumber 125 = .ok (.aload_n 0, 1) := by decide +kernel
theorem dX7_takeNumber_126 : decode cX7_takeNumber 126 = .ok (.getfield 22, 3) := by decide +kernel
theorem dX7_takeNumber_129 : decode cX7_takeNumber 129 = .ok (.iconst 1, 1) := by decide +kernel
theorem dX7_takeNumber_130 : decode cX7_takeNumber 130 = .ok (.invokevirtual 49, 3) := by decide +kernel
theorem dX7_takeNumber_133 : decode cX7_takeNumber 133 = .ok (.pop, 1) := by decide +kernel
theorem dX7_takeNumber_134 : decode cX7_takeNumber 134 = .ok (.iconst (-1), 1) := by decide +kernel
theorem dX7_takeNumber_135 : decode cX7_takeNumber 135 = .ok (.ireturn, 1) := by decide +kernel
theorem dX7_takeNumber_136 : decode cX7_takeNumber 136 = .ok (.iload_n 3, 1) := by decide +kernel
theorem dX7_takeNumber_137 : decode cX7_takeNumber 137 = .ok (.ireturn, 1) := by decide +kernel
theorem dX8_init_0 : decode cX8_init 0 = .ok (.aload_n 0, 1) := by decide +kernel
theorem dX8_init_1 : decode cX8_init 1 = .ok (.invokespecial 3, 3) := by decide +kernel
theorem dX8_init_4 : decode cX8_init 4 = .ok (.aload_n 0, 1) := by decide +kernel
theorem dX8_init_5 : decode cX8_init 5 = .ok (.bipush 10, 2) := by decide +kernel
theorem dX8_init_7 : decode cX8_init 7 = .ok (.newarray .long, 2) := by decide +kernel
theorem dX8_init_9 : decode cX8_init 9 = .ok (.putfield 9, 3) := by decide +kernel
theorem dX8_init_12 : decode cX8_init 12 = .ok (.aload_n 0, 1) := by decide +kernel
theorem dX8_init_13 : decode cX8_init 13 = .ok (.bipush 12, 2) := by decide +kernel
theorem dX8_init_15 : decode cX8_init 15 = .ok (.newarray .int, 2) := by decide +kernel
theorem dX8_init_17 : decode cX8_init 17 = .ok (.putfield 15, 3) := by decide +kernel
theorem dX8_init_20 : decode cX8_init 20 = .ok (.aload_n 0, 1) := by decide +kernel
theorem dX8_init_21 : decode cX8_init 21 = .ok (.bipush 12, 2) := by decide +kernel
theorem dX8_init_23 : decode cX8_init 23 = .ok (.newarray .int, 2) := by decide +kernel
theorem dX8_init_25 : decode cX8_init 25 = .ok (.putfield 19, 3) := by decide +kernel
theorem dX8_init_28 : decode cX8_init 28 = .ok (.aload_n 0, 1) := by decide +kernel
theorem dX8_init_29 : decode cX8_init 29 = .ok (.bipush 12, 2) := by decide +kernel
theorem dX8_init_31 : decode cX8_init 31 = .ok (.newarray .int, 2) := by decide +kernel
theorem dX8_init_33 : decode cX8_init 33 = .ok (.putfield 22, 3) := by decide +kernel
theorem dX8_init_36 : decode cX8_init 36 = .ok (.aload_n 0, 1) := by decide +kernel
theorem dX8_init_37 : decode cX8_init 37 = .ok (.bipush 12, 2) := by decide +kernel
theorem dX8_init_39 : decode cX8_init 39 = .ok (.newarray .long, 2) := by decide +kernel
theorem dX8_init_41 : decode cX8_init 41 = .ok (.putfield 25, 3) := by decide +kernel
theorem dX8_init_44 : decode cX8_init 44 = .ok (.aload_n 0, 1) := by decide +kernel
theorem dX8_init_45 : decode cX8_init 45 = .ok (.bipush 100, 2) := by decide +kernel
theorem dX8_init_47 : decode cX8_init 47 = .ok (.newarray .int, 2) := by decide +kernel
theorem dX8_init_49 : decode cX8_init 49 = .ok (.putfield 28, 3) := by decide +kernel
theorem dX8_init_52 : decode cX8_init 52 = .ok (.aload_n 0, 1) := by decide +kernel
theorem dX8_init_53 : decode cX8_init 53 = .ok (.iconst 0, 1) := by decide +kernel
theorem dX8_init_54 : decode cX8_init 54 = .ok (.putfield 31, 3) := by decide +kernel
theorem dX8_init_57 : decode cX8_init 57 = .ok (.aload_n 0, 1) := by decide +kernel
theorem dX8_init_58 : decode cX8_init 58 = .ok (.iconst 0, 1) := by decide +kernel
theorem dX8_init_59 : decode cX8_init 59 = .ok (.putfield 35, 3) := by decide +kernel
theorem dX8_init_62 : decode cX8_init 62 = .ok (.return_, 1) := by decide +kernel
theorem dX8_copyFrom_0 : decode cX8_copyFrom 0 = .ok (.aload_n 1, 1) := by decide +kernel
theorem dX8_copyFrom_1 : decode cX8_copyFrom 1 = .ok (.getfield 9, 3) := by decide +kernel
theorem dX8_copyFrom_4 : decode cX8_copyFrom 4 = .ok (.iconst 0, 1) := by decide +kernel
theorem dX8_copyFrom_5 : decode cX8_copyFrom 5 = .ok (.aload_n 0, 1) := by decide +kernel
theorem dX8_copyFrom_6 : decode cX8_copyFrom 6 = .ok (.getfield 9, 3) := by decide +kernel
theorem dX8_copyFrom_9 : decode cX8_copyFrom 9 = .ok (.iconst 0, 1) := by decide +kernel
theorem dX8_copyFrom_10 : decode cX8_copyFrom 10 = .ok (.bipush 10, 2) := by decide +kernel
theorem dX8_copyFrom_12 : decode cX8_copyFrom 12 = .ok (.invokestatic 38, 3) := by decide +kernel
theorem dX8_copyFrom_15 : decode cX8_copyFrom 15 = .ok (.aload_n 1, 1) := by decide +kernel
theorem dX8_copyFrom_16 : decode cX8_copyFrom 16 = .ok (.getfield 15, 3) := by decide +kernel
theorem dX8_copyFrom_19 : decode cX8_copyFrom 19 = .ok (.iconst 0, 1) := by decide +kernel
theorem dX8_copyFrom_20 : decode cX8_copyFrom 20 = .ok (.aload_n 0, 1) := by decide +kernel
theorem dX8_copyFrom_21 : decode cX8_copyFrom 21 = .ok (.getfield 15, 3) := by decide +kernel
theorem dX8_copyFrom_24 : decode cX8_copyFrom 24 = .ok (.iconst 0, 1) := by decide +kernel
theorem dX8_copyFrom_25 : decode cX8_copyFrom 25 = .ok (.bipush 12, 2) := by decide +kernel
theorem dX8_copyFrom_27 : decode cX8_copyFrom 27 = .ok (.invokestatic 38, 3) := by decide +kernel
theorem dX8_copyFrom_30 : decode cX8_copyFrom 30 = .ok (.aload_n 1, 1) := by decide +kernel
theorem dX8_copyFrom_31 : decode cX8_copyFrom 31 = .ok (.getfield 19, 3) := by decide +kernel
theorem dX8_copyFrom_34 : decode cX8_copyFrom 34 = .ok (.iconst 0, 1) := by decide +kernel
theorem dX8_copyFrom_35 : decode cX8_copyFrom 35 = .ok (.aload_n 0, 1) := by decide +kernel
theorem dX8_copyFrom_36 : decode cX8_copyFrom 36 = .ok (.getfield 19, 3) := by decide +kernel
theorem dX8_copyFrom_39 : decode cX8_copyFrom 39 = .ok (.iconst 0, 1) := by decide +kernel
theorem dX8_copyFrom_40 : decode cX8_copyFrom 40 = .ok (.bipush 12, 2) := by decide +kernel
theorem dX8_copyFrom_42 : decode cX8_copyFrom 42 = .ok (.invokestatic 38, 3) := by decide +kernel
theorem dX8_copyFrom_45 : decode cX8_copyFrom 45 = .ok (.aload_n 1, 1) := by decide +kernel
theorem dX8_copyFrom_46 : decode cX8_copyFrom 46 = .ok (.getfield 22, 3) := by decide +kernel
theorem dX8_copyFrom_49 : decode cX8_copyFrom 49 = .ok (.iconst 0, 1) := by decide +kernel
theorem dX8_copyFrom_50 : decode cX8_copyFrom 50 = .ok (.aload_n 0, 1) := by decide +kernel
theorem dX8_copyFrom_51 : decode cX8_copyFrom 51 = .ok (.getfield 22, 3) := by decide +kernel
theorem dX8_copyFrom_54 : decode cX8_copyFrom 54 = .ok (.iconst 0, 1) := by decide +kernel
theorem dX8_copyFrom_55 : decode cX8_copyFrom 55 = .ok (.bipush 12, 2) := by decide +kernel
theorem dX8_copyFrom_57 : decode cX8_copyFrom 57 = .ok (.invokestatic 38, 3) := by decide +kernel
theorem dX8_copyFrom_60 : decode cX8_copyFrom 60 = .ok (.aload_n 1, 1) := by decide +kernel
theorem dX8_copyFrom_61 : decode cX8_copyFrom 61 = .ok (.getfield 25, 3) := by decide +kernel
theorem dX8_copyFrom_64 : decode cX8_copyFrom 64 = .ok (.iconst 0, 1) := by decide +kernel
theorem dX8_copyFrom_65 : decode cX8_copyFrom 65 = .ok (.aload_n 0, 1) := by decide +kernel
theorem dX8_copyFrom_66 : decode cX8_copyFrom 66 = .ok (.getfield 25, 3) := by decide +kernel
theorem dX8_copyFrom_69 : decode cX8_copyFrom 69 = .ok (.iconst 0, 1) := by decide +kernel
theorem dX8_copyFrom_70 : decode cX8_copyFrom 70 = .ok (.bipush 12, 2) := by decide +kernel
theorem dX8_copyFrom_72 : decode cX8_copyFrom 72 = .ok (.invokestatic 38, 3) := by decide +kernel
theorem dX8_copyFrom_75 : decode cX8_copyFrom 75 = .ok (.aload_n 1, 1) := by decide +kernel
theorem dX8_copyFrom_76 : decode cX8_copyFrom 76 = .ok (.getfield 28, 3) := by decide +kernel
theorem dX8_copyFrom_79 : decode cX8_copyFrom 79 = .ok (.iconst 0, 1) := by decide +kernel
theorem dX8_copyFrom_80 : decode cX8_copyFrom 80 = .ok (.aload_n 0, 1) := by decide +kernel
theorem dX8_copyFrom_81 : decode cX8_copyFrom 81 = .ok (.getfield 28, 3) := by decide +kernel
theorem dX8_copyFrom_84 : decode cX8_copyFrom 84 = .ok (.iconst 0, 1) := by decide +kernel
theorem dX8_copyFrom_85 : decode cX8_copyFrom 85 = .ok (.bipush 100, 2) := by decide +kernel
theorem dX8_copyFrom_87 : decode cX8_copyFrom 87 = .ok (.invokestatic 38, 3) := by decide +kernel
theorem dX8_copyFrom_90 : decode cX8_copyFrom 90 = .ok (.aload_n 0, 1) := by decide +kernel
theorem dX8_copyFrom_91 : decode cX8_copyFrom 91 = .ok (.aload_n 1, 1) := by decide +kernel
theorem dX8_copyFrom_92 : decode cX8_copyFrom 92 = .ok (.getfield 31, 3) := by decide +kernel
theorem dX8_copyFrom_95 : decode cX8_copyFrom 95 = .ok (.putfield 31, 3) := by decide +kernel
theorem dX8_copyFrom_98 : decode cX8_copyFrom 98 = .ok (.aload_n 0, 1) := by decide +kernel
theorem dX8_copyFrom_99 : decode cX8_copyFrom 99 = .ok (.aload_n 1, 1) := by decide +kernel
theorem dX8_copyFrom_100 : decode cX8_copyFrom 100 = .ok (.getfield 35, 3) := by decide +kernel
theorem dX8_copyFrom_103 : decode cX8_copyFrom 103 = .ok (.putfield 35, 3) := by decide +kernel
theorem dX8_copyFrom_106 : decode cX8_copyFrom 106 = .ok (.return_, 1) := by decide +kernel
theorem dX8_addStair_0 : decode cX8_addStair 0 = .ok (.aload_n 0, 1) := by decide +kernel
theorem dX8_addStair_1 : decode cX8_addStair 1 = .ok (.getfield 35, 3) := by decide +kernel
theorem dX8_addStair_4 : decode cX8_addStair 4 = .ok (.bipush 12, 2) := by decide +kernel
theorem dX8_addStair_6 : decode cX8_addStair 6 = .ok (.if_icmp .ge 54, 3) := by decide +kernel
theorem dX8_addStair_9 : decode cX8_addStair 9 = .ok (.aload_n 0, 1) := by decide +kernel
theorem dX8_addStair_10 : decode cX8_addStair 10 = .ok (.getfield 15, 3) := by decide +kernel
theorem dX8_addStair_13 : decode cX8_addStair 13 = .ok (.aload_n 0, 1) := by decide +kernel
theorem dX8_addStair_14 : decode cX8_addStair 14 = .ok (.getfield 35, 3) := by decide +kernel
theorem dX8_addStair_17 : decode cX8_addStair 17 = .ok (.iload_n 1, 1) := by decide +kernel
theorem dX8_addStair_18 : decode cX8_addStair 18 = .ok (.iastore, 1) := by decide +kernel
theorem dX8_addStair_19 : decode cX8_addStair 19 = .ok (.aload_n 0, 1) := by decide +kernel
theorem dX8_addStair_20 : decode cX8_addStair 20 = .ok (.getfield 19, 3) := by decide +kernel
theorem dX8_addStair_23 : decode cX8_addStair 23 = .ok (.aload_n 0, 1) := by decide +kernel
theorem dX8_addStair_24 : decode cX8_addStair 24 = .ok (.getfield 35, 3) := by decide +kernel
theorem dX8_addStair_27 : decode cX8_addStair 27 = .ok (.iload_n 2, 1) := by decide +kernel
theorem dX8_addStair_28 : decode cX8_addStair 28 = .ok (.iastore, 1) := by decide +kernel
theorem dX8_addStair_29 : decode cX8_addStair 29 = .ok (.aload_n 0, 1) := by decide +kernel
theorem dX8_addStair_30 : decode cX8_addStair 30 = .ok (.getfield 22, 3) := by decide +kernel
theorem dX8_addStair_33 : decode cX8_addStair 33 = .ok (.aload_n 0, 1) := by decide +kernel
theorem dX8_addStair_34 : decode cX8_addStair 34 = .ok (.getfield 35, 3) := by decide +kernel
theorem dX8_addStair_37 : decode cX8_addStair 37 = .ok (.iload_n 3, 1) := by decide +kernel
theorem dX8_addStair_38 : decode cX8_addStair 38 = .ok (.iastore, 1) := by decide +kernel
theorem dX8_addStair_39 : decode cX8_addStair 39 = .ok (.aload_n 0, 1) := by decide +kernel
theorem dX8_addStair_40 : decode cX8_addStair 40 = .ok (.getfield 25, 3) := by decide +kernel
theorem dX8_addStair_43 : decode cX8_addStair 43 = .ok (.aload_n 0, 1) := by decide +kernel
theorem dX8_addStair_44 : decode cX8_addStair 44 = .ok (.getfield 35, 3) := by decide +kernel
theorem dX8_addStair_47 : decode cX8_addStair 47 = .ok (.lload 4, 2) := by decide +kernel
theorem dX8_addStair_49 : decode cX8_addStair 49 = .ok (.lastore, 1) := by decide +kernel
theorem dX8_addStair_50 : decode cX8_addStair 50 = .ok (.aload_n 0, 1) := by decide +kernel
theorem dX8_addStair_51 : decode cX8_addStair 51 = .ok (.dup, 1) := by decide +kernel
theorem dX8_addStair_52 : decode cX8_addStair 52 = .ok (.getfield 35, 3) := by decide +kernel
theorem dX8_addStair_55 : decode cX8_addStair 55 = .ok (.iconst 1, 1) := by decide +kernel
theorem dX8_addStair_56 : decode cX8_addStair 56 = .ok (.iadd, 1) := by decide +kernel
theorem dX8_addStair_57 : decode cX8_addStair 57 = .ok (.putfield 35, 3) := by decide +kernel
theorem dX8_addStair_60 : decode cX8_addStair 60 = .ok (.return_, 1) := by decide +kernel
theorem dX8_measureWays_0 : decode cX8_measureWays 0 = .ok (.iconst 0, 1) := by decide +kernel
theorem dX8_measureWays_1 : decode cX8_measureWays 1 = .ok (.istore_n 1, 1) := by decide +kernel
theorem dX8_measureWays_2 : decode cX8_measureWays 2 = .ok (.iload_n 1, 1) := by decide +kernel
theorem dX8_measureWays_3 : decode cX8_measureWays 3 = .ok (.bipush 100, 2) := by decide +kernel
theorem dX8_measureWays_5 : decode cX8_measureWays 5 = .ok (.if_icmp .ge 31, 3) := by decide +kernel
theorem dX8_measureWays_8 : decode cX8_measureWays 8 = .ok (.aload_n 0, 1) := by decide +kernel
theorem dX8_measureWays_9 : decode cX8_measureWays 9 = .ok (.getfield 28, 3) := by decide +kernel
theorem dX8_measureWays_12 : decode cX8_measureWays 12 = .ok (.iload_n 1, 1) := by decide +kernel
theorem dX8_measureWays_13 : decode cX8_measureWays 13 = .ok (.iload_n 1, 1) := by decide +kernel
theorem dX8_measureWays_14 : decode cX8_measureWays 14 = .ok (.bipush 10, 2) := by decide +kernel
theorem dX8_measureWays_16 : decode cX8_measureWays 16 = .ok (.idiv, 1) := by decide +kernel
theorem dX8_measureWays_17 : decode cX8_measureWays 17 = .ok (.iload_n 1, 1) := by decide +kernel
theorem dX8_measureWays_18 : decode cX8_measureWays 18 = .ok (.bipush 10, 2) := by decide +kernel
theorem dX8_measureWays_20 : decode cX8_measureWays 20 = .ok (.irem, 1) := by decide +kernel
theorem dX8_measureWays_21 : decode cX8_measureWays 21 = .ok (.if_icmp .ne 7, 3) := by decide +kernel
theorem dX8_measureWays_24 : decode cX8_measureWays 24 = .ok (.iconst 0, 1) := by decide +kernel
theorem dX8_measureWays_25 : decode cX8_measureWays 25 = .ok (.goto 4, 3) := by decide +kernel
theorem dX8_measureWays_28 : decode cX8_measureWays 28 = .ok (.iconst (-1), 1) := by decide +kernel
theorem dX8_measureWays_29 : decode cX8_measureWays 29 = .ok (.iastore, 1) := by decide +kernel
theorem dX8_measureWays_30 : decode cX8_measureWays 30 = .ok (.iinc 1 1, 3) := by decide +kernel
theorem dX8_measureWays_33 : decode cX8_measureWays 33 = .ok (.goto (-31), 3) := by decide +kernel
theorem dX8_measureWays_36 : decode cX8_measureWays 36 = .ok (.iconst 0, 1) := by decide +kernel
theorem dX8_measureWays_37 : decode cX8_measureWays 37 = .ok (.istore_n 1, 1) := by decide +kernel
theorem dX8_measureWays_38 : decode cX8_measureWays 38 = .ok (.iload_n 1, 1) := by decide +kernel
theorem dX8_measureWays_39 : decode cX8_measureWays 39 = .ok (.aload_n 0, 1) := by decide +kernel
theorem dX8_measureWays_40 : decode cX8_measureWays 40 = .ok (.getfield 35, 3) := by decide +kernel
theorem dX8_measureWays_43 : decode cX8_measureWays 43 = .ok (.if_icmp .ge 53, 3) := by decide +kernel
theorem dX8_measureWays_46 : decode cX8_measureWays 46 = .ok (.aload_n 0, 1) := by decide +kernel
theorem dX8_measureWays_47 : decode cX8_measureWays 47 = .ok (.aload_n 0, 1) := by decide +kernel
theorem dX8_measureWays_48 : decode cX8_measureWays 48 = .ok (.getfield 15, 3) := by decide +kernel
theorem dX8_measureWays_51 : decode cX8_measureWays 51 = .ok (.iload_n 1, 1) := by decide +kernel
theorem dX8_measureWays_52 : decode cX8_measureWays 52 = .ok (.iaload, 1) := by decide +kernel
theorem dX8_measureWays_53 : decode cX8_measureWays 53 = .ok (.aload_n 0, 1) := by decide +kernel
theorem dX8_measureWays_54 : decode cX8_measureWays 54 = .ok (.getfield 19, 3) := by decide +kernel
theorem dX8_measureWays_57 : decode cX8_measureWays 57 = .ok (.iload_n 1, 1) := by decide +kernel
theorem dX8_measureWays_58 : decode cX8_measureWays 58 = .ok (.iaload, 1) := by decide +kernel
theorem dX8_measureWays_59 : decode cX8_measureWays 59 = .ok (.aload_n 0, 1) := by decide +kernel
theorem dX8_measureWays_60 : decode cX8_measureWays 60 = .ok (.getfield 22, 3) := by decide +kernel
theorem dX8_measureWays_63 : decode cX8_measureWays 63 = .ok (.iload_n 1, 1) := by decide +kernel
theorem dX8_measureWays_64 : decode cX8_measureWays 64 = .ok (.iaload, 1) := by decide +kernel
theorem dX8_measureWays_65 : decode cX8_measureWays 65 = .ok (.invokevirtual 44, 3) := by decide +kernel
theorem dX8_measureWays_68 : decode cX8_measureWays 68 = .ok (.aload_n 0, 1) := by decide +kernel
theorem dX8_measureWays_69 : decode cX8_measureWays 69 = .ok (.aload_n 0, 1) := by decide +kernel
theorem dX8_measureWays_70 : decode cX8_measureWays 70 = .ok (.getfield 19, 3) := by decide +kernel
theorem dX8_measureWays_73 : decode cX8_measureWays 73 = .ok (.iload_n 1, 1) := by decide +kernel
theorem dX8_measureWays_74 : decode cX8_measureWays 74 = .ok (.iaload, 1) := by decide +kernel
theorem dX8_measureWays_75 : decode cX8_measureWays 75 = .ok (.aload_n 0, 1) := by decide +kernel
theorem dX8_measureWays_76 : decode cX8_measureWays 76 = .ok (.getfield 15, 3) := by decide +kernel
theorem dX8_measureWays_79 : decode cX8_measureWays 79 = .ok (.iload_n 1, 1) := by decide +kernel
theorem dX8_measureWays_80 : decode cX8_measureWays 80 = .ok (.iaload, 1) := by decide +kernel
theorem dX8_measureWays_81 : decode cX8_measureWays 81 = .ok (.aload_n 0, 1) := by decide +kernel
theorem dX8_measureWays_82 : decode cX8_measureWays 82 = .ok (.getfield 22, 3) := by decide +kernel
theorem dX8_measureWays_85 : decode cX8_measureWays 85 = .ok (.iload_n 1, 1) := by decide +kernel
theorem dX8_measureWays_86 : decode cX8_measureWays 86 = .ok (.iaload, 1) := by decide +kernel
theorem dX8_measureWays_87 : decode cX8_measureWays 87 = .ok (.invokevirtual 44, 3) := by decide +kernel
theorem dX8_measureWays_90 : decode cX8_measureWays 90 = .ok (.iinc 1 1, 3) := by decide +kernel
theorem dX8_measureWays_93 : decode cX8_measureWays 93 = .ok (.goto (-55), 3) := by decide +kernel
theorem dX8_measureWays_96 : decode cX8_measureWays 96 = .ok (.iconst 0, 1) := by decide +kernel
theorem dX8_measureWays_97 : decode cX8_measureWays 97 = .ok (.istore_n 1, 1) := by decide +kernel
theorem dX8_measureWays_98 : decode cX8_measureWays 98 = .ok (.iload_n 1, 1) := by decide +kernel
theorem dX8_measureWays_99 : decode cX8_measureWays 99 = .ok (.aload_n 0, 1) := by decide +kernel
theorem dX8_measureWays_100 : decode cX8_measureWays 100 = .ok (.getfield 31, 3) := by decide +kernel
theorem dX8_measureWays_103 : decode cX8_measureWays 103 = .ok (.if_icmp .ge 78, 3) := by decide +kernel
theorem dX8_measureWays_106 : decode cX8_measureWays 106 = .ok (.iconst 0, 1) := by decide +kernel
theorem dX8_measureWays_107 : decode cX8_measureWays 107 = .ok (.istore_n 2, 1) := by decide +kernel
theorem dX8_measureWays_108 : decode cX8_measureWays 108 = .ok (.iload_n 2, 1) := by decide +kernel
theorem dX8_measureWays_109 : decode cX8_measureWays 109 = .ok (.aload_n 0, 1) := by decide +kernel
theorem dX8_measureWays_110 : decode cX8_measureWays 110 = .ok (.getfield 31, 3) := by decide +kernel
theorem dX8_measureWays_113 : decode cX8_measureWays 113 = .ok (.if_icmp .ge 62, 3) := by decide +kernel
theorem dX8_measureWays_116 : decode cX8_measureWays 116 = .ok (.iconst 0, 1) := by decide +kernel
theorem dX8_measureWays_117 : decode cX8_measureWays 117 = .ok (.istore_n 3, 1) := by decide +kernel
theorem dX8_measureWays_118 : decode cX8_measureWays 118 = .ok (.iload_n 3, 1) := by decide +kernel
theorem dX8_measureWays_119 : decode cX8_measureWays 119 = .ok (.aload_n 0, 1) := by decide +kernel
theorem dX8_measureWays_120 : decode cX8_measureWays 120 = .ok (.getfield 31, 3) := by decide +kernel
theorem dX8_measureWays_123 : decode cX8_measureWays 123 = .ok (.if_icmp .ge 46, 3) := by decide +kernel
theorem dX8_measureWays_126 : decode cX8_measureWays 126 = .ok (.aload_n 0, 1) := by decide +kernel
theorem dX8_measureWays_127 : decode cX8_measureWays 127 = .ok (.iload_n 2, 1) := by decide +kernel
theorem dX8_measureWays_128 : decode cX8_measureWays 128 = .ok (.iload_n 1, 1) := by decide +kernel
theorem dX8_measureWays_129 : decode cX8_measureWays 129 = .ok (.invokevirtual 48, 3) := by decide +kernel
theorem dX8_measureWays_132 : decode cX8_measureWays 132 = .ok (.istore 4, 2) := by decide +kernel
theorem dX8_measureWays_134 : decode cX8_measureWays 134 = .ok (.aload_n 0, 1) := by decide +kernel
theorem dX8_measureWays_135 : decode cX8_measureWays 135 = .ok (.iload_n 1, 1) := by decide +kernel
theorem dX8_measureWays_136 : decode cX8_measureWays 136 = .ok (.iload_n 3, 1) := by decide +kernel
theorem dX8_measureWays_137 : decode cX8_measureWays 137 = .ok (.invokevirtual 48, 3) := by decide +kernel
theorem dX8_measureWays_140 : decode cX8_measureWays 140 = .ok (.istore 5, 2) := by decide +kernel
theorem dX8_measureWays_142 : decode cX8_measureWays 142 = .ok (.iload 4, 2) := by decide +kernel
theorem dX8_measureWays_144 : decode cX8_measureWays 144 = .ok (.ifCond .lt 19, 3) := by decide +kernel
theorem dX8_measureWays_147 : decode cX8_measureWays 147 = .ok (.iload 5, 2) := by decide +kernel
theorem dX8_measureWays_149 : decode cX8_measureWays 149 = .ok (.ifCond .lt 14, 3) := by decide +kernel
theorem dX8_measureWays_152 : decode cX8_measureWays 152 = .ok (.aload_n 0, 1) := by decide +kernel
theorem dX8_measureWays_153 : decode cX8_measureWays 153 = .ok (.iload_n 2, 1) := by decide +kernel
theorem dX8_measureWays_154 : decode cX8_measureWays 154 = .ok (.iload_n 3, 1) := by decide +kernel
theorem dX8_measureWays_155 : decode cX8_measureWays 155 = .ok (.iload 4, 2) := by decide +kernel
theorem dX8_measureWays_157 : decode cX8_measureWays 157 = .ok (.iload 5, 2) := by decide +kernel
theorem dX8_measureWays_159 : decode cX8_measureWays 159 = .ok (.iadd, 1) := by decide +kernel
theorem dX8_measureWays_160 : decode cX8_measureWays 160 = .ok (.invokevirtual 44, 3) := by decide +kernel
theorem dX8_measureWays_163 : decode cX8_measureWays 163 = .ok (.iinc 3 1, 3) := by decide +kernel
theorem dX8_measureWays_166 : decode cX8_measureWays 166 = .ok (.goto (-48), 3) := by decide +kernel
theorem dX8_measureWays_169 : decode cX8_measureWays 169 = .ok (.iinc 2 1, 3) := by decide +kernel
theorem dX8_measureWays_172 : decode cX8_measureWays 172 = .ok (.goto (-64), 3) := by decide +kernel
theorem dX8_measureWays_175 : decode cX8_measureWays 175 = .ok (.iinc 1 1, 3) := by decide +kernel
theorem dX8_measureWays_178 : decode cX8_measureWays 178 = .ok (.goto (-80), 3) := by decide +kernel
theorem dX8_measureWays_181 : decode cX8_measureWays 181 = .ok (.return_, 1) := by decide +kernel
theorem dX8_shorten_0 : decode cX8_shorten 0 = .ok (.aload_n 0, 1) := by decide +kernel
theorem dX8_shorten_1 : decode cX8_shorten 1 = .ok (.iload_n 1, 1) := by decide +kernel
theorem dX8_shorten_2 : decode cX8_shorten 2 = .ok (.iload_n 2, 1) := by decide +kernel
theorem dX8_shorten_3 : decode cX8_shorten 3 = .ok (.invokevirtual 48, 3) := by decide +kernel
theorem dX8_shorten_6 : decode cX8_shorten 6 = .ok (.istore 4, 2) := by decide +kernel
theorem dX8_shorten_8 : decode cX8_shorten 8 = .ok (.iload 4, 2) := by decide +kernel
theorem dX8_shorten_10 : decode cX8_shorten 10 = .ok (.ifCond .lt 9, 3) := by decide +kernel
theorem dX8_shorten_13 : decode cX8_shorten 13 = .ok (.iload_n 3, 1) := by decide +kernel
theorem dX8_shorten_14 : decode cX8_shorten 14 = .ok (.iload 4, 2) := by decide +kernel
theorem dX8_shorten_16 : decode cX8_shorten 16 = .ok (.if_icmp .ge 15, 3) := by decide +kernel
theorem dX8_shorten_19 : decode cX8_shorten 19 = .ok (.aload_n 0, 1) := by decide +kernel
theorem dX8_shorten_20 : decode cX8_shorten 20 = .ok (.getfield 28, 3) := by decide +kernel
theorem dX8_shorten_23 : decode cX8_shorten 23 = .ok (.iload_n 1, 1) := by decide +kernel
theorem dX8_shorten_24 : decode cX8_shorten 24 = .ok (.bipush 10, 2) := by decide +kernel
theorem dX8_shorten_26 : decode cX8_shorten 26 = .ok (.imul, 1) := by decide +kernel
theorem dX8_shorten_27 : decode cX8_shorten 27 = .ok (.iload_n 2, 1) := by decide +kernel
theorem dX8_shorten_28 : decode cX8_shorten 28 = .ok (.iadd, 1) := by decide +kernel
theorem dX8_shorten_29 : decode cX8_shorten 29 = .ok (.iload_n 3, 1) := by decide +kernel
theorem dX8_shorten_30 : decode cX8_shorten 30 = .ok (.iastore, 1) := by decide +kernel
theorem dX8_shorten_31 : decode cX8_shorten 31 = .ok (.return_, 1) := by decide +kernel
theorem dX8_hoursBetween_0 : decode cX8_hoursBetween 0 = .ok (.aload_n 0, 1) := by decide +kernel
theorem dX8_hoursBetween_1 : decode cX8_hoursBetween 1 = .ok (.getfield 28, 3) := by decide +kernel
theorem dX8_hoursBetween_4 : decode cX8_hoursBetween 4 = .ok (.iload_n 1, 1) := by decide +kernel
theorem dX8_hoursBetween_5 : decode cX8_hoursBetween 5 = .ok (.bipush 10, 2) := by decide +kernel
theorem dX8_hoursBetween_7 : decode cX8_hoursBetween 7 = .ok (.imul, 1) := by decide +kernel
theorem dX8_hoursBetween_8 : decode cX8_hoursBetween 8 = .ok (.iload_n 2, 1) := by decide +kernel
theorem dX8_hoursBetween_9 : decode cX8_hoursBetween 9 = .ok (.iadd, 1) := by decide +kernel
theorem dX8_hoursBetween_10 : decode cX8_hoursBetween 10 = .ok (.iaload, 1) := by decide +kernel
theorem dX8_hoursBetween_11 : decode cX8_hoursBetween 11 = .ok (.ireturn, 1) := by decide +kernel
theorem dX8_otherEnd_0 : decode cX8_otherEnd 0 = .ok (.aload_n 0, 1) := by decide +kernel
