theorem dX0_init_0 : decode cX0_init 0 = .ok (.aload_n 0, 1) := by decide +kernel
theorem dX0_init_1 : decode cX0_init 1 = .ok (.invokespecial 3, 3) := by decide +kernel
theorem dX0_init_4 : decode cX0_init 4 = .ok (.aload_n 0, 1) := by decide +kernel
theorem dX0_init_5 : decode cX0_init 5 = .ok (.bipush 24, 2) := by decide +kernel
theorem dX0_init_7 : decode cX0_init 7 = .ok (.newarray .int, 2) := by decide +kernel
theorem dX0_init_9 : decode cX0_init 9 = .ok (.putfield 9, 3) := by decide +kernel
theorem dX0_init_12 : decode cX0_init 12 = .ok (.aload_n 0, 1) := by decide +kernel
theorem dX0_init_13 : decode cX0_init 13 = .ok (.bipush 24, 2) := by decide +kernel
theorem dX0_init_15 : decode cX0_init 15 = .ok (.newarray .int, 2) := by decide +kernel
theorem dX0_init_17 : decode cX0_init 17 = .ok (.putfield 15, 3) := by decide +kernel
theorem dX0_init_20 : decode cX0_init 20 = .ok (.aload_n 0, 1) := by decide +kernel
theorem dX0_init_21 : decode cX0_init 21 = .ok (.bipush 24, 2) := by decide +kernel
theorem dX0_init_23 : decode cX0_init 23 = .ok (.newarray .int, 2) := by decide +kernel
theorem dX0_init_25 : decode cX0_init 25 = .ok (.putfield 18, 3) := by decide +kernel
theorem dX0_init_28 : decode cX0_init 28 = .ok (.aload_n 0, 1) := by decide +kernel
theorem dX0_init_29 : decode cX0_init 29 = .ok (.bipush 24, 2) := by decide +kernel
theorem dX0_init_31 : decode cX0_init 31 = .ok (.newarray .int, 2) := by decide +kernel
theorem dX0_init_33 : decode cX0_init 33 = .ok (.putfield 21, 3) := by decide +kernel
theorem dX0_init_36 : decode cX0_init 36 = .ok (.aload_n 0, 1) := by decide +kernel
theorem dX0_init_37 : decode cX0_init 37 = .ok (.bipush 24, 2) := by decide +kernel
theorem dX0_init_39 : decode cX0_init 39 = .ok (.newarray .int, 2) := by decide +kernel
theorem dX0_init_41 : decode cX0_init 41 = .ok (.putfield 24, 3) := by decide +kernel
theorem dX0_init_44 : decode cX0_init 44 = .ok (.aload_n 0, 1) := by decide +kernel
theorem dX0_init_45 : decode cX0_init 45 = .ok (.bipush 24, 2) := by decide +kernel
theorem dX0_init_47 : decode cX0_init 47 = .ok (.newarray .int, 2) := by decide +kernel
theorem dX0_init_49 : decode cX0_init 49 = .ok (.putfield 27, 3) := by decide +kernel
theorem dX0_init_52 : decode cX0_init 52 = .ok (.aload_n 0, 1) := by decide +kernel
theorem dX0_init_53 : decode cX0_init 53 = .ok (.bipush 24, 2) := by decide +kernel
theorem dX0_init_55 : decode cX0_init 55 = .ok (.newarray .int, 2) := by decide +kernel
theorem dX0_init_57 : decode cX0_init 57 = .ok (.putfield 30, 3) := by decide +kernel
theorem dX0_init_60 : decode cX0_init 60 = .ok (.return_, 1) := by decide +kernel
theorem dX0_has_0 : decode cX0_has 0 = .ok (.iload_n 1, 1) := by decide +kernel
theorem dX0_has_1 : decode cX0_has 1 = .ok (.ifCond .lt 15, 3) := by decide +kernel
theorem dX0_has_4 : decode cX0_has 4 = .ok (.iload_n 1, 1) := by decide +kernel
theorem dX0_has_5 : decode cX0_has 5 = .ok (.aload_n 0, 1) := by decide +kernel
theorem dX0_has_6 : decode cX0_has 6 = .ok (.getfield 33, 3) := by decide +kernel
theorem dX0_has_9 : decode cX0_has 9 = .ok (.if_icmp .ge 7, 3) := by decide +kernel
theorem dX0_has_12 : decode cX0_has 12 = .ok (.iconst 1, 1) := by decide +kernel
theorem dX0_has_13 : decode cX0_has 13 = .ok (.goto 4, 3) := by decide +kernel
theorem dX0_has_16 : decode cX0_has 16 = .ok (.iconst 0, 1) := by decide +kernel
theorem dX0_has_17 : decode cX0_has 17 = .ok (.ireturn, 1) := by decide +kernel
theorem dX0_all_0 : decode cX0_all 0 = .ok (.iconst 1, 1) := by decide +kernel
theorem dX0_all_1 : decode cX0_all 1 = .ok (.aload_n 0, 1) := by decide +kernel
theorem dX0_all_2 : decode cX0_all 2 = .ok (.getfield 33, 3) := by decide +kernel
theorem dX0_all_5 : decode cX0_all 5 = .ok (.ishl, 1) := by decide +kernel
theorem dX0_all_6 : decode cX0_all 6 = .ok (.iconst 1, 1) := by decide +kernel
theorem dX0_all_7 : decode cX0_all 7 = .ok (.isub, 1) := by decide +kernel
theorem dX0_all_8 : decode cX0_all 8 = .ok (.ireturn, 1) := by decide +kernel
theorem dX0_hasAll_0 : decode cX0_hasAll 0 = .ok (.iload_n 1, 1) := by decide +kernel
theorem dX0_hasAll_1 : decode cX0_hasAll 1 = .ok (.ifCond .lt 15, 3) := by decide +kernel
theorem dX0_hasAll_4 : decode cX0_hasAll 4 = .ok (.iload_n 1, 1) := by decide +kernel
theorem dX0_hasAll_5 : decode cX0_hasAll 5 = .ok (.aload_n 0, 1) := by decide +kernel
theorem dX0_hasAll_6 : decode cX0_hasAll 6 = .ok (.invokevirtual 37, 3) := by decide +kernel
theorem dX0_hasAll_9 : decode cX0_hasAll 9 = .ok (.if_icmp .gt 7, 3) := by decide +kernel
theorem dX0_hasAll_12 : decode cX0_hasAll 12 = .ok (.iconst 1, 1) := by decide +kernel
theorem dX0_hasAll_13 : decode cX0_hasAll 13 = .ok (.goto 4, 3) := by decide +kernel
theorem dX0_hasAll_16 : decode cX0_hasAll 16 = .ok (.iconst 0, 1) := by decide +kernel
theorem dX0_hasAll_17 : decode cX0_hasAll 17 = .ok (.ireturn, 1) := by decide +kernel
theorem dX0_attackedBy_0 : decode cX0_attackedBy 0 = .ok (.iconst 0, 1) := by decide +kernel
theorem dX0_attackedBy_1 : decode cX0_attackedBy 1 = .ok (.istore_n 3, 1) := by decide +kernel
theorem dX0_attackedBy_2 : decode cX0_attackedBy 2 = .ok (.iconst 0, 1) := by decide +kernel
theorem dX0_attackedBy_3 : decode cX0_attackedBy 3 = .ok (.istore 4, 2) := by decide +kernel
theorem dX0_attackedBy_5 : decode cX0_attackedBy 5 = .ok (.iload 4, 2) := by decide +kernel
theorem dX0_attackedBy_7 : decode cX0_attackedBy 7 = .ok (.aload_n 0, 1) := by decide +kernel
theorem dX0_attackedBy_8 : decode cX0_attackedBy 8 = .ok (.getfield 33, 3) := by decide +kernel
theorem dX0_attackedBy_11 : decode cX0_attackedBy 11 = .ok (.if_icmp .ge 37, 3) := by decide +kernel
theorem dX0_attackedBy_14 : decode cX0_attackedBy 14 = .ok (.iload_n 2, 1) := by decide +kernel
theorem dX0_attackedBy_15 : decode cX0_attackedBy 15 = .ok (.iload 4, 2) := by decide +kernel
theorem dX0_attackedBy_17 : decode cX0_attackedBy 17 = .ok (.ishr, 1) := by decide +kernel
theorem dX0_attackedBy_18 : decode cX0_attackedBy 18 = .ok (.iconst 1, 1) := by decide +kernel
theorem dX0_attackedBy_19 : decode cX0_attackedBy 19 = .ok (.iand, 1) := by decide +kernel
theorem dX0_attackedBy_20 : decode cX0_attackedBy 20 = .ok (.iconst 1, 1) := by decide +kernel
theorem dX0_attackedBy_21 : decode cX0_attackedBy 21 = .ok (.if_icmp .ne 21, 3) := by decide +kernel
theorem dX0_attackedBy_24 : decode cX0_attackedBy 24 = .ok (.aload_n 0, 1) := by decide +kernel
theorem dX0_attackedBy_25 : decode cX0_attackedBy 25 = .ok (.getfield 30, 3) := by decide +kernel
theorem dX0_attackedBy_28 : decode cX0_attackedBy 28 = .ok (.iload 4, 2) := by decide +kernel
theorem dX0_attackedBy_30 : decode cX0_attackedBy 30 = .ok (.iaload, 1) := by decide +kernel
theorem dX0_attackedBy_31 : decode cX0_attackedBy 31 = .ok (.iload_n 1, 1) := by decide +kernel
theorem dX0_attackedBy_32 : decode cX0_attackedBy 32 = .ok (.if_icmp .ne 10, 3) := by decide +kernel
theorem dX0_attackedBy_35 : decode cX0_attackedBy 35 = .ok (.iload_n 3, 1) := by decide +kernel
theorem dX0_attackedBy_36 : decode cX0_attackedBy 36 = .ok (.iconst 1, 1) := by decide +kernel
theorem dX0_attackedBy_37 : decode cX0_attackedBy 37 = .ok (.iload 4, 2) := by decide +kernel
theorem dX0_attackedBy_39 : decode cX0_attackedBy 39 = .ok (.ishl, 1) := by decide +kernel
theorem dX0_attackedBy_40 : decode cX0_attackedBy 40 = .ok (.ior, 1) := by decide +kernel
theorem dX0_attackedBy_41 : decode cX0_attackedBy 41 = .ok (.istore_n 3, 1) := by decide +kernel
theorem dX0_attackedBy_42 : decode cX0_attackedBy 42 = .ok (.iinc 4 1, 3) := by decide +kernel
theorem dX0_attackedBy_45 : decode cX0_attackedBy 45 = .ok (.goto (-40), 3) := by decide +kernel
theorem dX0_attackedBy_48 : decode cX0_attackedBy 48 = .ok (.iload_n 3, 1) := by decide +kernel
theorem dX0_attackedBy_49 : decode cX0_attackedBy 49 = .ok (.ireturn, 1) := by decide +kernel
theorem dX0_add_0 : decode cX0_add 0 = .ok (.aload_n 0, 1) := by decide +kernel
theorem dX0_add_1 : decode cX0_add 1 = .ok (.getfield 33, 3) := by decide +kernel
theorem dX0_add_4 : decode cX0_add 4 = .ok (.bipush 24, 2) := by decide +kernel
theorem dX0_add_6 : decode cX0_add 6 = .ok (.if_icmp .lt 6, 3) := by decide +kernel
theorem dX0_add_9 : decode cX0_add 9 = .ok (.bipush (-4), 2) := by decide +kernel
theorem dX0_add_11 : decode cX0_add 11 = .ok (.ireturn, 1) := by decide +kernel
theorem dX0_add_12 : decode cX0_add 12 = .ok (.aload_n 0, 1) := by decide +kernel
theorem dX0_add_13 : decode cX0_add 13 = .ok (.getfield 9, 3) := by decide +kernel
theorem dX0_add_16 : decode cX0_add 16 = .ok (.aload_n 0, 1) := by decide +kernel
theorem dX0_add_17 : decode cX0_add 17 = .ok (.getfield 33, 3) := by decide +kernel
theorem dX0_add_20 : decode cX0_add 20 = .ok (.iload_n 1, 1) := by decide +kernel
theorem dX0_add_21 : decode cX0_add 21 = .ok (.iastore, 1) := by decide +kernel
theorem dX0_add_22 : decode cX0_add 22 = .ok (.aload_n 0, 1) := by decide +kernel
theorem dX0_add_23 : decode cX0_add 23 = .ok (.getfield 15, 3) := by decide +kernel
theorem dX0_add_26 : decode cX0_add 26 = .ok (.aload_n 0, 1) := by decide +kernel
theorem dX0_add_27 : decode cX0_add 27 = .ok (.getfield 33, 3) := by decide +kernel
theorem dX0_add_30 : decode cX0_add 30 = .ok (.iload_n 2, 1) := by decide +kernel
theorem dX0_add_31 : decode cX0_add 31 = .ok (.iastore, 1) := by decide +kernel
theorem dX0_add_32 : decode cX0_add 32 = .ok (.aload_n 0, 1) := by decide +kernel
theorem dX0_add_33 : decode cX0_add 33 = .ok (.getfield 18, 3) := by decide +kernel
theorem dX0_add_36 : decode cX0_add 36 = .ok (.aload_n 0, 1) := by decide +kernel
theorem dX0_add_37 : decode cX0_add 37 = .ok (.getfield 33, 3) := by decide +kernel
theorem dX0_add_40 : decode cX0_add 40 = .ok (.iload_n 3, 1) := by decide +kernel
theorem dX0_add_41 : decode cX0_add 41 = .ok (.iastore, 1) := by decide +kernel
theorem dX0_add_42 : decode cX0_add 42 = .ok (.aload_n 0, 1) := by decide +kernel
theorem dX0_add_43 : decode cX0_add 43 = .ok (.getfield 21, 3) := by decide +kernel
theorem dX0_add_46 : decode cX0_add 46 = .ok (.aload_n 0, 1) := by decide +kernel
theorem dX0_add_47 : decode cX0_add 47 = .ok (.getfield 33, 3) := by decide +kernel
theorem dX0_add_50 : decode cX0_add 50 = .ok (.iload 4, 2) := by decide +kernel
theorem dX0_add_52 : decode cX0_add 52 = .ok (.iastore, 1) := by decide +kernel
theorem dX0_add_53 : decode cX0_add 53 = .ok (.aload_n 0, 1) := by decide +kernel
theorem dX0_add_54 : decode cX0_add 54 = .ok (.getfield 24, 3) := by decide +kernel
theorem dX0_add_57 : decode cX0_add 57 = .ok (.aload_n 0, 1) := by decide +kernel
theorem dX0_add_58 : decode cX0_add 58 = .ok (.getfield 33, 3) := by decide +kernel
theorem dX0_add_61 : decode cX0_add 61 = .ok (.iload 5, 2) := by decide +kernel
theorem dX0_add_63 : decode cX0_add 63 = .ok (.bipush 10, 2) := by decide +kernel
theorem dX0_add_65 : decode cX0_add 65 = .ok (.idiv, 1) := by decide +kernel
theorem dX0_add_66 : decode cX0_add 66 = .ok (.iastore, 1) := by decide +kernel
theorem dX0_add_67 : decode cX0_add 67 = .ok (.aload_n 0, 1) := by decide +kernel
theorem dX0_add_68 : decode cX0_add 68 = .ok (.getfield 27, 3) := by decide +kernel
theorem dX0_add_71 : decode cX0_add 71 = .ok (.aload_n 0, 1) := by decide +kernel
theorem dX0_add_72 : decode cX0_add 72 = .ok (.getfield 33, 3) := by decide +kernel
theorem dX0_add_75 : decode cX0_add 75 = .ok (.iload 5, 2) := by decide +kernel
theorem dX0_add_77 : decode cX0_add 77 = .ok (.bipush 10, 2) := by decide +kernel
theorem dX0_add_79 : decode cX0_add 79 = .ok (.irem, 1) := by decide +kernel
theorem dX0_add_80 : decode cX0_add 80 = .ok (.iastore, 1) := by decide +kernel
theorem dX0_add_81 : decode cX0_add 81 = .ok (.aload_n 0, 1) := by decide +kernel
theorem dX0_add_82 : decode cX0_add 82 = .ok (.getfield 30, 3) := by decide +kernel
theorem dX0_add_85 : decode cX0_add 85 = .ok (.aload_n 0, 1) := by decide +kernel
theorem dX0_add_86 : decode cX0_add 86 = .ok (.getfield 33, 3) := by decide +kernel
theorem dX0_add_89 : decode cX0_add 89 = .ok (.iload 6, 2) := by decide +kernel
theorem dX0_add_91 : decode cX0_add 91 = .ok (.iastore, 1) := by decide +kernel
theorem dX0_add_92 : decode cX0_add 92 = .ok (.aload_n 0, 1) := by decide +kernel
theorem dX0_add_93 : decode cX0_add 93 = .ok (.dup, 1) := by decide +kernel
theorem dX0_add_94 : decode cX0_add 94 = .ok (.getfield 33, 3) := by decide +kernel
theorem dX0_add_97 : decode cX0_add 97 = .ok (.iconst 1, 1) := by decide +kernel
theorem dX0_add_98 : decode cX0_add 98 = .ok (.iadd, 1) := by decide +kernel
theorem dX0_add_99 : decode cX0_add 99 = .ok (.putfield 33, 3) := by decide +kernel
theorem dX0_add_102 : decode cX0_add 102 = .ok (.aload_n 0, 1) := by decide +kernel
theorem dX0_add_103 : decode cX0_add 103 = .ok (.getfield 33, 3) := by decide +kernel
theorem dX0_add_106 : decode cX0_add 106 = .ok (.iconst 1, 1) := by decide +kernel
theorem dX0_add_107 : decode cX0_add 107 = .ok (.isub, 1) := by decide +kernel
theorem dX0_add_108 : decode cX0_add 108 = .ok (.ireturn, 1) := by decide +kernel
theorem dX1_init_0 : decode cX1_init 0 = .ok (.aload_n 0, 1) := by decide +kernel
theorem dX1_init_1 : decode cX1_init 1 = .ok (.invokespecial 3, 3) := by decide +kernel
theorem dX1_init_4 : decode cX1_init 4 = .ok (.aload_n 0, 1) := by decide +kernel
theorem dX1_init_5 : decode cX1_init 5 = .ok (.iconst 4, 1) := by decide +kernel
theorem dX1_init_6 : decode cX1_init 6 = .ok (.newarray .int, 2) := by decide +kernel
theorem dX1_init_8 : decode cX1_init 8 = .ok (.putfield 9, 3) := by decide +kernel
theorem dX1_init_11 : decode cX1_init 11 = .ok (.aload_n 0, 1) := by decide +kernel
theorem dX1_init_12 : decode cX1_init 12 = .ok (.iconst 4, 1) := by decide +kernel
theorem dX1_init_13 : decode cX1_init 13 = .ok (.newarray .int, 2) := by decide +kernel
theorem dX1_init_15 : decode cX1_init 15 = .ok (.putfield 15, 3) := by decide +kernel
theorem dX1_init_18 : decode cX1_init 18 = .ok (.aload_n 0, 1) := by decide +kernel
theorem dX1_init_19 : decode cX1_init 19 = .ok (.iconst 4, 1) := by decide +kernel
theorem dX1_init_20 : decode cX1_init 20 = .ok (.newarray .int, 2) := by decide +kernel
theorem dX1_init_22 : decode cX1_init 22 = .ok (.putfield 18, 3) := by decide +kernel
theorem dX1_init_25 : decode cX1_init 25 = .ok (.return_, 1) := by decide +kernel
theorem dX1_has_0 : decode cX1_has 0 = .ok (.iload_n 1, 1) := by decide +kernel
theorem dX1_has_1 : decode cX1_has 1 = .ok (.ifCond .lt 15, 3) := by decide +kernel
theorem dX1_has_4 : decode cX1_has 4 = .ok (.iload_n 1, 1) := by decide +kernel
theorem dX1_has_5 : decode cX1_has 5 = .ok (.aload_n 0, 1) := by decide +kernel
theorem dX1_has_6 : decode cX1_has 6 = .ok (.getfield 21, 3) := by decide +kernel
theorem dX1_has_9 : decode cX1_has 9 = .ok (.if_icmp .ge 7, 3) := by decide +kernel
theorem dX1_has_12 : decode cX1_has 12 = .ok (.iconst 1, 1) := by decide +kernel
theorem dX1_has_13 : decode cX1_has 13 = .ok (.goto 4, 3) := by decide +kernel
theorem dX1_has_16 : decode cX1_has 16 = .ok (.iconst 0, 1) := by decide +kernel
theorem dX1_has_17 : decode cX1_has 17 = .ok (.ireturn, 1) := by decide +kernel
theorem dX1_add_0 : decode cX1_add 0 = .ok (.iload_n 1, 1) := by decide +kernel
theorem dX1_add_1 : decode cX1_add 1 = .ok (.iconst 1, 1) := by decide +kernel
theorem dX1_add_2 : decode cX1_add 2 = .ok (.bipush 20, 2) := by decide +kernel
theorem dX1_add_4 : decode cX1_add 4 = .ok (.invokestatic 25, 3) := by decide +kernel
theorem dX1_add_7 : decode cX1_add 7 = .ok (.ifCond .eq 24, 3) := by decide +kernel
theorem dX1_add_10 : decode cX1_add 10 = .ok (.iload_n 2, 1) := by decide +kernel
theorem dX1_add_11 : decode cX1_add 11 = .ok (.iconst 0, 1) := by decide +kernel
theorem dX1_add_12 : decode cX1_add 12 = .ok (.bipush 19, 2) := by decide +kernel
theorem dX1_add_14 : decode cX1_add 14 = .ok (.invokestatic 25, 3) := by decide +kernel
theorem dX1_add_17 : decode cX1_add 17 = .ok (.ifCond .eq 14, 3) := by decide +kernel
theorem dX1_add_20 : decode cX1_add 20 = .ok (.iload_n 3, 1) := by decide +kernel
theorem dX1_add_21 : decode cX1_add 21 = .ok (.bipush (-9), 2) := by decide +kernel
theorem dX1_add_23 : decode cX1_add 23 = .ok (.bipush 9, 2) := by decide +kernel
theorem dX1_add_25 : decode cX1_add 25 = .ok (.invokestatic 25, 3) := by decide +kernel
theorem dX1_add_28 : decode cX1_add 28 = .ok (.ifCond .ne 6, 3) := by decide +kernel
theorem dX1_add_31 : decode cX1_add 31 = .ok (.bipush (-2), 2) := by decide +kernel
theorem dX1_add_33 : decode cX1_add 33 = .ok (.ireturn, 1) := by decide +kernel
theorem dX1_add_34 : decode cX1_add 34 = .ok (.aload_n 0, 1) := by decide +kernel
theorem dX1_add_35 : decode cX1_add 35 = .ok (.getfield 21, 3) := by decide +kernel
theorem dX1_add_38 : decode cX1_add 38 = .ok (.iconst 4, 1) := by decide +kernel
theorem dX1_add_39 : decode cX1_add 39 = .ok (.if_icmp .lt 6, 3) := by decide +kernel
theorem dX1_add_42 : decode cX1_add 42 = .ok (.bipush (-4), 2) := by decide +kernel
theorem dX1_add_44 : decode cX1_add 44 = .ok (.ireturn, 1) := by decide +kernel
theorem dX1_add_45 : decode cX1_add 45 = .ok (.aload_n 0, 1) := by decide +kernel
theorem dX1_add_46 : decode cX1_add 46 = .ok (.getfield 9, 3) := by decide +kernel
theorem dX1_add_49 : decode cX1_add 49 = .ok (.aload_n 0, 1) := by decide +kernel
theorem dX1_add_50 : decode cX1_add 50 = .ok (.getfield 21, 3) := by decide +kernel
theorem dX1_add_53 : decode cX1_add 53 = .ok (.iload_n 1, 1) := by decide +kernel
theorem dX1_add_54 : decode cX1_add 54 = .ok (.iastore, 1) := by decide +kernel
theorem dX1_add_55 : decode cX1_add 55 = .ok (.aload_n 0, 1) := by decide +kernel
theorem dX1_add_56 : decode cX1_add 56 = .ok (.getfield 15, 3) := by decide +kernel
theorem dX1_add_59 : decode cX1_add 59 = .ok (.aload_n 0, 1) := by decide +kernel
theorem dX1_add_60 : decode cX1_add 60 = .ok (.getfield 21, 3) := by decide +kernel
theorem dX1_add_63 : decode cX1_add 63 = .ok (.iload_n 2, 1) := by decide +kernel
theorem dX1_add_64 : decode cX1_add 64 = .ok (.iastore, 1) := by decide +kernel
theorem dX1_add_65 : decode cX1_add 65 = .ok (.aload_n 0, 1) := by decide +kernel
theorem dX1_add_66 : decode cX1_add 66 = .ok (.getfield 18, 3) := by decide +kernel
theorem dX1_add_69 : decode cX1_add 69 = .ok (.aload_n 0, 1) := by decide +kernel
theorem dX1_add_70 : decode cX1_add 70 = .ok (.getfield 21, 3) := by decide +kernel
theorem dX1_add_73 : decode cX1_add 73 = .ok (.iload_n 3, 1) := by decide +kernel
theorem dX1_add_74 : decode cX1_add 74 = .ok (.iastore, 1) := by decide +kernel
theorem dX1_add_75 : decode cX1_add 75 = .ok (.aload_n 0, 1) := by decide +kernel
theorem dX1_add_76 : decode cX1_add 76 = .ok (.dup, 1) := by decide +kernel
theorem dX1_add_77 : decode cX1_add 77 = .ok (.getfield 21, 3) := by decide +kernel
theorem dX1_add_80 : decode cX1_add 80 = .ok (.iconst 1, 1) := by decide +kernel
theorem dX1_add_81 : decode cX1_add 81 = .ok (.iadd, 1) := by decide +kernel
theorem dX1_add_82 : decode cX1_add 82 = .ok (.putfield 21, 3) := by decide +kernel
theorem dX1_add_85 : decode cX1_add 85 = .ok (.aload_n 0, 1) := by decide +kernel
theorem dX1_add_86 : decode cX1_add 86 = .ok (.getfield 21, 3) := by decide +kernel
theorem dX1_add_89 : decode cX1_add 89 = .ok (.iconst 1, 1) := by decide +kernel
theorem dX1_add_90 : decode cX1_add 90 = .ok (.isub, 1) := by decide +kernel
theorem dX1_add_91 : decode cX1_add 91 = .ok (.ireturn, 1) := by decide +kernel
theorem dX1_frameFor_0 : decode cX1_frameFor 0 = .ok (.aload_n 0, 1) := by decide +kernel
theorem dX1_frameFor_1 : decode cX1_frameFor 1 = .ok (.getfield 15, 3) := by decide +kernel
theorem dX1_frameFor_4 : decode cX1_frameFor 4 = .ok (.iload_n 1, 1) := by decide +kernel
theorem dX1_frameFor_5 : decode cX1_frameFor 5 = .ok (.iaload, 1) := by decide +kernel
theorem dX1_frameFor_6 : decode cX1_frameFor 6 = .ok (.istore_n 3, 1) := by decide +kernel
theorem dX1_frameFor_7 : decode cX1_frameFor 7 = .ok (.aload_n 0, 1) := by decide +kernel
theorem dX1_frameFor_8 : decode cX1_frameFor 8 = .ok (.getfield 9, 3) := by decide +kernel
theorem dX1_frameFor_11 : decode cX1_frameFor 11 = .ok (.iload_n 1, 1) := by decide +kernel
theorem dX1_frameFor_12 : decode cX1_frameFor 12 = .ok (.iaload, 1) := by decide +kernel
theorem dX1_frameFor_13 : decode cX1_frameFor 13 = .ok (.istore 4, 2) := by decide +kernel
theorem dX1_frameFor_15 : decode cX1_frameFor 15 = .ok (.iload_n 2, 1) := by decide +kernel
theorem dX1_frameFor_16 : decode cX1_frameFor 16 = .ok (.iload_n 3, 1) := by decide +kernel
theorem dX1_frameFor_17 : decode cX1_frameFor 17 = .ok (.if_icmp .lt 9, 3) := by decide +kernel
theorem dX1_frameFor_20 : decode cX1_frameFor 20 = .ok (.iload 4, 2) := by decide +kernel
theorem dX1_frameFor_22 : decode cX1_frameFor 22 = .ok (.iconst 1, 1) := by decide +kernel
theorem dX1_frameFor_23 : decode cX1_frameFor 23 = .ok (.if_icmp .ge 5, 3) := by decide +kernel
theorem dX1_frameFor_26 : decode cX1_frameFor 26 = .ok (.iload_n 3, 1) := by decide +kernel
theorem dX1_frameFor_27 : decode cX1_frameFor 27 = .ok (.ireturn, 1) := by decide +kernel
theorem dX1_frameFor_28 : decode cX1_frameFor 28 = .ok (.iload_n 2, 1) := by decide +kernel
theorem dX1_frameFor_29 : decode cX1_frameFor 29 = .ok (.iload_n 2, 1) := by decide +kernel
theorem dX1_frameFor_30 : decode cX1_frameFor 30 = .ok (.iload_n 3, 1) := by decide +kernel
theorem dX1_frameFor_31 : decode cX1_frameFor 31 = .ok (.isub, 1) := by decide +kernel
theorem dX1_frameFor_32 : decode cX1_frameFor 32 = .ok (.iload 4, 2) := by decide +kernel
theorem dX1_frameFor_34 : decode cX1_frameFor 34 = .ok (.irem, 1) := by decide +kernel
theorem dX1_frameFor_35 : decode cX1_frameFor 35 = .ok (.isub, 1) := by decide +kernel
theorem dX1_frameFor_36 : decode cX1_frameFor 36 = .ok (.ireturn, 1) := by decide +kernel
theorem dX1_seenAt_0 : decode cX1_seenAt 0 = .ok (.iload_n 2, 1) := by decide +kernel
theorem dX1_seenAt_1 : decode cX1_seenAt 1 = .ok (.aload_n 0, 1) := by decide +kernel
theorem dX1_seenAt_2 : decode cX1_seenAt 2 = .ok (.getfield 18, 3) := by decide +kernel
theorem dX1_seenAt_5 : decode cX1_seenAt 5 = .ok (.iload_n 1, 1) := by decide +kernel
theorem dX1_seenAt_6 : decode cX1_seenAt 6 = .ok (.iaload, 1) := by decide +kernel
theorem dX1_seenAt_7 : decode cX1_seenAt 7 = .ok (.iload_n 2, 1) := by decide +kernel
theorem dX1_seenAt_8 : decode cX1_seenAt 8 = .ok (.imul, 1) := by decide +kernel
theorem dX1_seenAt_9 : decode cX1_seenAt 9 = .ok (.sipush 1000, 3) := by decide +kernel
theorem dX1_seenAt_12 : decode cX1_seenAt 12 = .ok (.idiv, 1) := by decide +kernel
theorem dX1_seenAt_13 : decode cX1_seenAt 13 = .ok (.iadd, 1) := by decide +kernel
theorem dX1_seenAt_14 : decode cX1_seenAt 14 = .ok (.ireturn, 1) := by decide +kernel
theorem dX2_init_0 : decode cX2_init 0 = .ok (.aload_n 0, 1) := by decide +kernel
theorem dX2_init_1 : decode cX2_init 1 = .ok (.invokespecial 3, 3) := by decide +kernel
theorem dX2_init_4 : decode cX2_init 4 = .ok (.aload_n 0, 1) := by decide +kernel
theorem dX2_init_5 : decode cX2_init 5 = .ok (.bipush 40, 2) := by decide +kernel
theorem dX2_init_7 : decode cX2_init 7 = .ok (.newarray .int, 2) := by decide +kernel
theorem dX2_init_9 : decode cX2_init 9 = .ok (.putfield 9, 3) := by decide +kernel
theorem dX2_init_12 : decode cX2_init 12 = .ok (.aload_n 0, 1) := by decide +kernel
theorem dX2_init_13 : decode cX2_init 13 = .ok (.bipush 40, 2) := by decide +kernel
theorem dX2_init_15 : decode cX2_init 15 = .ok (.newarray .int, 2) := by decide +kernel
theorem dX2_init_17 : decode cX2_init 17 = .ok (.putfield 15, 3) := by decide +kernel
theorem dX2_init_20 : decode cX2_init 20 = .ok (.aload_n 0, 1) := by decide +kernel
theorem dX2_init_21 : decode cX2_init 21 = .ok (.bipush 64, 2) := by decide +kernel
theorem dX2_init_23 : decode cX2_init 23 = .ok (.newarray .int, 2) := by decide +kernel
theorem dX2_init_25 : decode cX2_init 25 = .ok (.putfield 18, 3) := by decide +kernel
theorem dX2_init_28 : decode cX2_init 28 = .ok (.return_, 1) := by decide +kernel
theorem dX2_add_0 : decode cX2_add 0 = .ok (.iload_n 1, 1) := by decide +kernel
theorem dX2_add_1 : decode cX2_add 1 = .ok (.iconst 0, 1) := by decide +kernel
theorem dX2_add_2 : decode cX2_add 2 = .ok (.bipush 63, 2) := by decide +kernel
theorem dX2_add_4 : decode cX2_add 4 = .ok (.invokestatic 21, 3) := by decide +kernel
theorem dX2_add_7 : decode cX2_add 7 = .ok (.ifCond .eq 12, 3) := by decide +kernel
theorem dX2_add_10 : decode cX2_add 10 = .ok (.iload_n 2, 1) := by decide +kernel
theorem dX2_add_11 : decode cX2_add 11 = .ok (.iconst 0, 1) := by decide +kernel
theorem dX2_add_12 : decode cX2_add 12 = .ok (.iconst 3, 1) := by decide +kernel
theorem dX2_add_13 : decode cX2_add 13 = .ok (.invokestatic 21, 3) := by decide +kernel
theorem dX2_add_16 : decode cX2_add 16 = .ok (.ifCond .ne 6, 3) := by decide +kernel
theorem dX2_add_19 : decode cX2_add 19 = .ok (.bipush (-2), 2) := by decide +kernel
theorem dX2_add_21 : decode cX2_add 21 = .ok (.ireturn, 1) := by decide +kernel
theorem dX2_add_22 : decode cX2_add 22 = .ok (.aload_n 0, 1) := by decide +kernel
theorem dX2_add_23 : decode cX2_add 23 = .ok (.getfield 25, 3) := by decide +kernel
theorem dX2_add_26 : decode cX2_add 26 = .ok (.bipush 40, 2) := by decide +kernel
theorem dX2_add_28 : decode cX2_add 28 = .ok (.if_icmp .lt 6, 3) := by decide +kernel
theorem dX2_add_31 : decode cX2_add 31 = .ok (.bipush (-4), 2) := by decide +kernel
theorem dX2_add_33 : decode cX2_add 33 = .ok (.ireturn, 1) := by decide +kernel
theorem dX2_add_34 : decode cX2_add 34 = .ok (.aload_n 0, 1) := by decide +kernel
theorem dX2_add_35 : decode cX2_add 35 = .ok (.getfield 9, 3) := by decide +kernel
theorem dX2_add_38 : decode cX2_add 38 = .ok (.aload_n 0, 1) := by decide +kernel
theorem dX2_add_39 : decode cX2_add 39 = .ok (.getfield 25, 3) := by decide +kernel
theorem dX2_add_42 : decode cX2_add 42 = .ok (.iload_n 1, 1) := by decide +kernel
theorem dX2_add_43 : decode cX2_add 43 = .ok (.iastore, 1) := by decide +kernel
theorem dX2_add_44 : decode cX2_add 44 = .ok (.aload_n 0, 1) := by decide +kernel
theorem dX2_add_45 : decode cX2_add 45 = .ok (.getfield 15, 3) := by decide +kernel
theorem dX2_add_48 : decode cX2_add 48 = .ok (.aload_n 0, 1) := by decide +kernel
theorem dX2_add_49 : decode cX2_add 49 = .ok (.getfield 25, 3) := by decide +kernel
theorem dX2_add_52 : decode cX2_add 52 = .ok (.iload_n 2, 1) := by decide +kernel
theorem dX2_add_53 : decode cX2_add 53 = .ok (.iastore, 1) := by decide +kernel
theorem dX2_add_54 : decode cX2_add 54 = .ok (.aload_n 0, 1) := by decide +kernel
theorem dX2_add_55 : decode cX2_add 55 = .ok (.dup, 1) := by decide +kernel
theorem dX2_add_56 : decode cX2_add 56 = .ok (.getfield 25, 3) := by decide +kernel
theorem dX2_add_59 : decode cX2_add 59 = .ok (.iconst 1, 1) := by decide +kernel
theorem dX2_add_60 : decode cX2_add 60 = .ok (.iadd, 1) := by decide +kernel
theorem dX2_add_61 : decode cX2_add 61 = .ok (.putfield 25, 3) := by decide +kernel
theorem dX2_add_64 : decode cX2_add 64 = .ok (.aload_n 0, 1) := by decide +kernel
theorem dX2_add_65 : decode cX2_add 65 = .ok (.getfield 25, 3) := by decide +kernel
theorem dX2_add_68 : decode cX2_add 68 = .ok (.iconst 1, 1) := by decide +kernel
theorem dX2_add_69 : decode cX2_add 69 = .ok (.isub, 1) := by decide +kernel
theorem dX2_add_70 : decode cX2_add 70 = .ok (.ireturn, 1) := by decide +kernel
theorem dX2_fewestMarks_0 : decode cX2_fewestMarks 0 = .ok (.iconst (-1), 1) := by decide +kernel
theorem dX2_fewestMarks_1 : decode cX2_fewestMarks 1 = .ok (.istore_n 1, 1) := by decide +kernel
theorem dX2_fewestMarks_2 : decode cX2_fewestMarks 2 = .ok (.iconst 0, 1) := by decide +kernel
theorem dX2_fewestMarks_3 : decode cX2_fewestMarks 3 = .ok (.istore_n 2, 1) := by decide +kernel
theorem dX2_fewestMarks_4 : decode cX2_fewestMarks 4 = .ok (.iload_n 2, 1) := by decide +kernel
theorem dX2_fewestMarks_5 : decode cX2_fewestMarks 5 = .ok (.bipush 64, 2) := by decide +kernel
theorem dX2_fewestMarks_7 : decode cX2_fewestMarks 7 = .ok (.if_icmp .ge 45, 3) := by decide +kernel
theorem dX2_fewestMarks_10 : decode cX2_fewestMarks 10 = .ok (.iload_n 1, 1) := by decide +kernel
theorem dX2_fewestMarks_11 : decode cX2_fewestMarks 11 = .ok (.iconst (-1), 1) := by decide +kernel
theorem dX2_fewestMarks_12 : decode cX2_fewestMarks 12 = .ok (.if_icmp .eq 14, 3) := by decide +kernel
theorem dX2_fewestMarks_15 : decode cX2_fewestMarks 15 = .ok (.iload_n 2, 1) := by decide +kernel
theorem dX2_fewestMarks_16 : decode cX2_fewestMarks 16 = .ok (.invokestatic 29, 3) := by decide +kernel
theorem dX2_fewestMarks_19 : decode cX2_fewestMarks 19 = .ok (.iload_n 1, 1) := by decide +kernel
theorem dX2_fewestMarks_20 : decode cX2_fewestMarks 20 = .ok (.invokestatic 29, 3) := by decide +kernel
theorem dX2_fewestMarks_23 : decode cX2_fewestMarks 23 = .ok (.if_icmp .ge 7, 3) := by decide +kernel
theorem dX2_fewestMarks_26 : decode cX2_fewestMarks 26 = .ok (.iconst 1, 1) := by decide +kernel
theorem dX2_fewestMarks_27 : decode cX2_fewestMarks 27 = .ok (.goto 4, 3) := by decide +kernel
theorem dX2_fewestMarks_30 : decode cX2_fewestMarks 30 = .ok (.iconst 0, 1) := by decide +kernel
theorem dX2_fewestMarks_31 : decode cX2_fewestMarks 31 = .ok (.istore_n 3, 1) := by decide +kernel
theorem dX2_fewestMarks_32 : decode cX2_fewestMarks 32 = .ok (.iload_n 3, 1) := by decide +kernel
theorem dX2_fewestMarks_33 : decode cX2_fewestMarks 33 = .ok (.ifCond .eq 13, 3) := by decide +kernel
theorem dX2_fewestMarks_36 : decode cX2_fewestMarks 36 = .ok (.aload_n 0, 1) := by decide +kernel
theorem dX2_fewestMarks_37 : decode cX2_fewestMarks 37 = .ok (.iload_n 2, 1) := by decide +kernel
theorem dX2_fewestMarks_38 : decode cX2_fewestMarks 38 = .ok (.invokevirtual 35, 3) := by decide +kernel
theorem dX2_fewestMarks_41 : decode cX2_fewestMarks 41 = .ok (.ifCond .eq 5, 3) := by decide +kernel
theorem dX2_fewestMarks_44 : decode cX2_fewestMarks 44 = .ok (.iload_n 2, 1) := by decide +kernel
theorem dX2_fewestMarks_45 : decode cX2_fewestMarks 45 = .ok (.istore_n 1, 1) := by decide +kernel
theorem dX2_fewestMarks_46 : decode cX2_fewestMarks 46 = .ok (.iinc 2 1, 3) := by decide +kernel
theorem dX2_fewestMarks_49 : decode cX2_fewestMarks 49 = .ok (.goto (-45), 3) := by decide +kernel
theorem dX2_fewestMarks_52 : decode cX2_fewestMarks 52 = .ok (.iload_n 1, 1) := by decide +kernel
theorem dX2_fewestMarks_53 : decode cX2_fewestMarks 53 = .ok (.ireturn, 1) := by decide +kernel
theorem dX2_isSplitBy_0 : decode cX2_isSplitBy 0 = .ok (.iconst 0, 1) := by decide +kernel
theorem dX2_isSplitBy_1 : decode cX2_isSplitBy 1 = .ok (.istore_n 2, 1) := by decide +kernel
theorem dX2_isSplitBy_2 : decode cX2_isSplitBy 2 = .ok (.iload_n 2, 1) := by decide +kernel
theorem dX2_isSplitBy_3 : decode cX2_isSplitBy 3 = .ok (.bipush 64, 2) := by decide +kernel
theorem dX2_isSplitBy_5 : decode cX2_isSplitBy 5 = .ok (.if_icmp .ge 16, 3) := by decide +kernel
theorem dX2_isSplitBy_8 : decode cX2_isSplitBy 8 = .ok (.aload_n 0, 1) := by decide +kernel
theorem dX2_isSplitBy_9 : decode cX2_isSplitBy 9 = .ok (.getfield 18, 3) := by decide +kernel
theorem dX2_isSplitBy_12 : decode cX2_isSplitBy 12 = .ok (.iload_n 2, 1) := by decide +kernel
theorem dX2_isSplitBy_13 : decode cX2_isSplitBy 13 = .ok (.iconst (-1), 1) := by decide +kernel
theorem dX2_isSplitBy_14 : decode cX2_isSplitBy 14 = .ok (.iastore, 1) := by decide +kernel
theorem dX2_isSplitBy_15 : decode cX2_isSplitBy 15 = .ok (.iinc 2 1, 3) := by decide +kernel
theorem dX2_isSplitBy_18 : decode cX2_isSplitBy 18 = .ok (.goto (-16), 3) := by decide +kernel
theorem dX2_isSplitBy_21 : decode cX2_isSplitBy 21 = .ok (.iconst 0, 1) := by decide +kernel
theorem dX2_isSplitBy_22 : decode cX2_isSplitBy 22 = .ok (.istore_n 2, 1) := by decide +kernel
theorem dX2_isSplitBy_23 : decode cX2_isSplitBy 23 = .ok (.iload_n 2, 1) := by decide +kernel
theorem dX2_isSplitBy_24 : decode cX2_isSplitBy 24 = .ok (.aload_n 0, 1) := by decide +kernel
theorem dX2_isSplitBy_25 : decode cX2_isSplitBy 25 = .ok (.getfield 25, 3) := by decide +kernel
theorem dX2_isSplitBy_28 : decode cX2_isSplitBy 28 = .ok (.if_icmp .ge 57, 3) := by decide +kernel
theorem dX2_isSplitBy_31 : decode cX2_isSplitBy 31 = .ok (.aload_n 0, 1) := by decide +kernel
theorem dX2_isSplitBy_32 : decode cX2_isSplitBy 32 = .ok (.getfield 9, 3) := by decide +kernel
theorem dX2_isSplitBy_35 : decode cX2_isSplitBy 35 = .ok (.iload_n 2, 1) := by decide +kernel
theorem dX2_isSplitBy_36 : decode cX2_isSplitBy 36 = .ok (.iaload, 1) := by decide +kernel
theorem dX2_isSplitBy_37 : decode cX2_isSplitBy 37 = .ok (.iload_n 1, 1) := by decide +kernel
theorem dX2_isSplitBy_38 : decode cX2_isSplitBy 38 = .ok (.iand, 1) := by decide +kernel
theorem dX2_isSplitBy_39 : decode cX2_isSplitBy 39 = .ok (.istore_n 3, 1) := by decide +kernel
theorem dX2_isSplitBy_40 : decode cX2_isSplitBy 40 = .ok (.aload_n 0, 1) := by decide +kernel
theorem dX2_isSplitBy_41 : decode cX2_isSplitBy 41 = .ok (.getfield 18, 3) := by decide +kernel
theorem dX2_isSplitBy_44 : decode cX2_isSplitBy 44 = .ok (.iload_n 3, 1) := by decide +kernel
theorem dX2_isSplitBy_45 : decode cX2_isSplitBy 45 = .ok (.iaload, 1) := by decide +kernel
theorem dX2_isSplitBy_46 : decode cX2_isSplitBy 46 = .ok (.iconst (-1), 1) := by decide +kernel
theorem dX2_isSplitBy_47 : decode cX2_isSplitBy 47 = .ok (.if_icmp .eq 20, 3) := by decide +kernel
theorem dX2_isSplitBy_50 : decode cX2_isSplitBy 50 = .ok (.aload_n 0, 1) := by decide +kernel
theorem dX2_isSplitBy_51 : decode cX2_isSplitBy 51 = .ok (.getfield 18, 3) := by decide +kernel
theorem dX2_isSplitBy_54 : decode cX2_isSplitBy 54 = .ok (.iload_n 3, 1) := by decide +kernel
theorem dX2_isSplitBy_55 : decode cX2_isSplitBy 55 = .ok (.iaload, 1) := by decide +kernel
theorem dX2_isSplitBy_56 : decode cX2_isSplitBy 56 = .ok (.aload_n 0, 1) := by decide +kernel
theorem dX2_isSplitBy_57 : decode cX2_isSplitBy 57 = .ok (.getfield 15, 3) := by decide +kernel
theorem dX2_isSplitBy_60 : decode cX2_isSplitBy 60 = .ok (.iload_n 2, 1) := by decide +kernel
theorem dX2_isSplitBy_61 : decode cX2_isSplitBy 61 = .ok (.iaload, 1) := by decide +kernel
theorem dX2_isSplitBy_62 : decode cX2_isSplitBy 62 = .ok (.if_icmp .eq 5, 3) := by decide +kernel
theorem dX2_isSplitBy_65 : decode cX2_isSplitBy 65 = .ok (.iconst 0, 1) := by decide +kernel
theorem dX2_isSplitBy_66 : decode cX2_isSplitBy 66 = .ok (.ireturn, 1) := by decide +kernel
theorem dX2_isSplitBy_67 : decode cX2_isSplitBy 67 = .ok (.aload_n 0, 1) := by decide +kernel
theorem dX2_isSplitBy_68 : decode cX2_isSplitBy 68 = .ok (.getfield 18, 3) := by decide +kernel
theorem dX2_isSplitBy_71 : decode cX2_isSplitBy 71 = .ok (.iload_n 3, 1) := by decide +kernel
theorem dX2_isSplitBy_72 : decode cX2_isSplitBy 72 = .ok (.aload_n 0, 1) := by decide +kernel
theorem dX2_isSplitBy_73 : decode cX2_isSplitBy 73 = .ok (.getfield 15, 3) := by decide +kernel
theorem dX2_isSplitBy_76 : decode cX2_isSplitBy 76 = .ok (.iload_n 2, 1) := by decide +kernel
theorem dX2_isSplitBy_77 : decode cX2_isSplitBy 77 = .ok (.iaload, 1) := by decide +kernel
theorem dX2_isSplitBy_78 : decode cX2_isSplitBy 78 = .ok (.iastore, 1) := by decide +kernel
theorem dX2_isSplitBy_79 : decode cX2_isSplitBy 79 = .ok (.iinc 2 1, 3) := by decide +kernel
theorem dX2_isSplitBy_82 : decode cX2_isSplitBy 82 = .ok (.goto (-59), 3) := by decide +kernel
theorem dX2_isSplitBy_85 : decode cX2_isSplitBy 85 = .ok (.iconst 1, 1) := by decide +kernel
theorem dX2_isSplitBy_86 : decode cX2_isSplitBy 86 = .ok (.ireturn, 1) := by decide +kernel
theorem dX3_init_0 : decode cX3_init 0 = .ok (.aload_n 0, 1) := by decide +kernel
theorem dX3_init_1 : decode cX3_init 1 = .ok (.invokespecial 3, 3) := by decide +kernel
theorem dX3_init_4 : decode cX3_init 4 = .ok (.aload_n 0, 1) := by decide +kernel
theorem dX3_init_5 : decode cX3_init 5 = .ok (.bipush 6, 2) := by decide +kernel
theorem dX3_init_7 : decode cX3_init 7 = .ok (.newarray .int, 2) := by decide +kernel
theorem dX3_init_9 : decode cX3_init 9 = .ok (.putfield 9, 3) := by decide +kernel
theorem dX3_init_12 : decode cX3_init 12 = .ok (.aload_n 0, 1) := by decide +kernel
theorem dX3_init_13 : decode cX3_init 13 = .ok (.bipush 6, 2) := by decide +kernel
theorem dX3_init_15 : decode cX3_init 15 = .ok (.newarray .int, 2) := by decide +kernel
theorem dX3_init_17 : decode cX3_init 17 = .ok (.putfield 15, 3) := by decide +kernel
theorem dX3_init_20 : decode cX3_init 20 = .ok (.return_, 1) := by decide +kernel
theorem dX3_has_0 : decode cX3_has 0 = .ok (.iload_n 1, 1) := by decide +kernel
theorem dX3_has_1 : decode cX3_has 1 = .ok (.ifCond .lt 15, 3) := by decide +kernel
theorem dX3_has_4 : decode cX3_has 4 = .ok (.iload_n 1, 1) := by decide +kernel
theorem dX3_has_5 : decode cX3_has 5 = .ok (.aload_n 0, 1) := by decide +kernel
theorem dX3_has_6 : decode cX3_has 6 = .ok (.getfield 18, 3) := by decide +kernel
theorem dX3_has_9 : decode cX3_has 9 = .ok (.if_icmp .ge 7, 3) := by decide +kernel
theorem dX3_has_12 : decode cX3_has 12 = .ok (.iconst 1, 1) := by decide +kernel
theorem dX3_has_13 : decode cX3_has 13 = .ok (.goto 4, 3) := by decide +kernel
theorem dX3_has_16 : decode cX3_has 16 = .ok (.iconst 0, 1) := by decide +kernel
theorem dX3_has_17 : decode cX3_has 17 = .ok (.ireturn, 1) := by decide +kernel
theorem dX3_add_0 : decode cX3_add 0 = .ok (.iload_n 1, 1) := by decide +kernel
theorem dX3_add_1 : decode cX3_add 1 = .ok (.bipush (-20), 2) := by decide +kernel
theorem dX3_add_3 : decode cX3_add 3 = .ok (.bipush 20, 2) := by decide +kernel
theorem dX3_add_5 : decode cX3_add 5 = .ok (.invokestatic 22, 3) := by decide +kernel
theorem dX3_add_8 : decode cX3_add 8 = .ok (.ifCond .eq 13, 3) := by decide +kernel
theorem dX3_add_11 : decode cX3_add 11 = .ok (.iload_n 2, 1) := by decide +kernel
theorem dX3_add_12 : decode cX3_add 12 = .ok (.iconst 0, 1) := by decide +kernel
theorem dX3_add_13 : decode cX3_add 13 = .ok (.bipush 9, 2) := by decide +kernel
theorem dX3_add_15 : decode cX3_add 15 = .ok (.invokestatic 22, 3) := by decide +kernel
theorem dX3_add_18 : decode cX3_add 18 = .ok (.ifCond .ne 6, 3) := by decide +kernel
theorem dX3_add_21 : decode cX3_add 21 = .ok (.bipush (-2), 2) := by decide +kernel
theorem dX3_add_23 : decode cX3_add 23 = .ok (.ireturn, 1) := by decide +kernel
theorem dX3_add_24 : decode cX3_add 24 = .ok (.aload_n 0, 1) := by decide +kernel
theorem dX3_add_25 : decode cX3_add 25 = .ok (.getfield 18, 3) := by decide +kernel
theorem dX3_add_28 : decode cX3_add 28 = .ok (.bipush 6, 2) := by decide +kernel
theorem dX3_add_30 : decode cX3_add 30 = .ok (.if_icmp .lt 6, 3) := by decide +kernel
theorem dX3_add_33 : decode cX3_add 33 = .ok (.bipush (-4), 2) := by decide +kernel
theorem dX3_add_35 : decode cX3_add 35 = .ok (.ireturn, 1) := by decide +kernel
theorem dX3_add_36 : decode cX3_add 36 = .ok (.aload_n 0, 1) := by decide +kernel
theorem dX3_add_37 : decode cX3_add 37 = .ok (.getfield 9, 3) := by decide +kernel
theorem dX3_add_40 : decode cX3_add 40 = .ok (.aload_n 0, 1) := by decide +kernel
theorem dX3_add_41 : decode cX3_add 41 = .ok (.getfield 18, 3) := by decide +kernel
theorem dX3_add_44 : decode cX3_add 44 = .ok (.iload_n 1, 1) := by decide +kernel
theorem dX3_add_45 : decode cX3_add 45 = .ok (.iastore, 1) := by decide +kernel
theorem dX3_add_46 : decode cX3_add 46 = .ok (.aload_n 0, 1) := by decide +kernel
theorem dX3_add_47 : decode cX3_add 47 = .ok (.getfield 15, 3) := by decide +kernel
theorem dX3_add_50 : decode cX3_add 50 = .ok (.aload_n 0, 1) := by decide +kernel
theorem dX3_add_51 : decode cX3_add 51 = .ok (.getfield 18, 3) := by decide +kernel
theorem dX3_add_54 : decode cX3_add 54 = .ok (.iload_n 2, 1) := by decide +kernel
theorem dX3_add_55 : decode cX3_add 55 = .ok (.iastore, 1) := by decide +kernel
theorem dX3_add_56 : decode cX3_add 56 = .ok (.aload_n 0, 1) := by decide +kernel
theorem dX3_add_57 : decode cX3_add 57 = .ok (.dup, 1) := by decide +kernel
theorem dX3_add_58 : decode cX3_add 58 = .ok (.getfield 18, 3) := by decide +kernel
theorem dX3_add_61 : decode cX3_add 61 = .ok (.iconst 1, 1) := by decide +kernel
theorem dX3_add_62 : decode cX3_add 62 = .ok (.iadd, 1) := by decide +kernel
theorem dX3_add_63 : decode cX3_add 63 = .ok (.putfield 18, 3) := by decide +kernel
theorem dX3_add_66 : decode cX3_add 66 = .ok (.aload_n 0, 1) := by decide +kernel
theorem dX3_add_67 : decode cX3_add 67 = .ok (.getfield 18, 3) := by decide +kernel
theorem dX3_add_70 : decode cX3_add 70 = .ok (.iconst 1, 1) := by decide +kernel
theorem dX3_add_71 : decode cX3_add 71 = .ok (.isub, 1) := by decide +kernel
theorem dX3_add_72 : decode cX3_add 72 = .ok (.ireturn, 1) := by decide +kernel
theorem dX4_init_0 : decode cX4_init 0 = .ok (.aload_n 0, 1) := by decide +kernel
theorem dX4_init_1 : decode cX4_init 1 = .ok (.invokespecial 3, 3) := by decide +kernel
theorem dX4_init_4 : decode cX4_init 4 = .ok (.aload_n 0, 1) := by decide +kernel
theorem dX4_init_5 : decode cX4_init 5 = .ok (.bipush 12, 2) := by decide +kernel
theorem dX4_init_7 : decode cX4_init 7 = .ok (.newarray .int, 2) := by decide +kernel
theorem dX4_init_9 : decode cX4_init 9 = .ok (.putfield 9, 3) := by decide +kernel
theorem dX4_init_12 : decode cX4_init 12 = .ok (.aload_n 0, 1) := by decide +kernel
theorem dX4_init_13 : decode cX4_init 13 = .ok (.bipush 12, 2) := by decide +kernel
theorem dX4_init_15 : decode cX4_init 15 = .ok (.newarray .int, 2) := by decide +kernel
theorem dX4_init_17 : decode cX4_init 17 = .ok (.putfield 15, 3) := by decide +kernel
theorem dX4_init_20 : decode cX4_init 20 = .ok (.aload_n 0, 1) := by decide +kernel
theorem dX4_init_21 : decode cX4_init 21 = .ok (.bipush 12, 2) := by decide +kernel
theorem dX4_init_23 : decode cX4_init 23 = .ok (.newarray .int, 2) := by decide +kernel
theorem dX4_init_25 : decode cX4_init 25 = .ok (.putfield 18, 3) := by decide +kernel
theorem dX4_init_28 : decode cX4_init 28 = .ok (.aload_n 0, 1) := by decide +kernel
theorem dX4_init_29 : decode cX4_init 29 = .ok (.bipush 12, 2) := by decide +kernel
theorem dX4_init_31 : decode cX4_init 31 = .ok (.newarray .int, 2) := by decide +kernel
theorem dX4_init_33 : decode cX4_init 33 = .ok (.putfield 21, 3) := by decide +kernel
theorem dX4_init_36 : decode cX4_init 36 = .ok (.aload_n 0, 1) := by decide +kernel
theorem dX4_init_37 : decode cX4_init 37 = .ok (.iconst 4, 1) := by decide +kernel
theorem dX4_init_38 : decode cX4_init 38 = .ok (.newarray .int, 2) := by decide +kernel
theorem dX4_init_40 : decode cX4_init 40 = .ok (.putfield 24, 3) := by decide +kernel
theorem dX4_init_43 : decode cX4_init 43 = .ok (.aload_n 0, 1) := by decide +kernel
theorem dX4_init_44 : decode cX4_init 44 = .ok (.iconst 4, 1) := by decide +kernel
theorem dX4_init_45 : decode cX4_init 45 = .ok (.newarray .int, 2) := by decide +kernel
theorem dX4_init_47 : decode cX4_init 47 = .ok (.putfield 27, 3) := by decide +kernel
theorem dX4_init_50 : decode cX4_init 50 = .ok (.aload_n 0, 1) := by decide +kernel
theorem dX4_init_51 : decode cX4_init 51 = .ok (.iconst 4, 1) := by decide +kernel
theorem dX4_init_52 : decode cX4_init 52 = .ok (.newarray .int, 2) := by decide +kernel
theorem dX4_init_54 : decode cX4_init 54 = .ok (.putfield 30, 3) := by decide +kernel
theorem dX4_init_57 : decode cX4_init 57 = .ok (.return_, 1) := by decide +kernel
theorem dX4_add_0 : decode cX4_add 0 = .ok (.aload_n 0, 1) := by decide +kernel
theorem dX4_add_1 : decode cX4_add 1 = .ok (.getfield 33, 3) := by decide +kernel
theorem dX4_add_4 : decode cX4_add 4 = .ok (.bipush 12, 2) := by decide +kernel
theorem dX4_add_6 : decode cX4_add 6 = .ok (.if_icmp .lt 6, 3) := by decide +kernel
theorem dX4_add_9 : decode cX4_add 9 = .ok (.bipush (-4), 2) := by decide +kernel
theorem dX4_add_11 : decode cX4_add 11 = .ok (.ireturn, 1) := by decide +kernel
theorem dX4_add_12 : decode cX4_add 12 = .ok (.aload_n 0, 1) := by decide +kernel
theorem dX4_add_13 : decode cX4_add 13 = .ok (.getfield 9, 3) := by decide +kernel
theorem dX4_add_16 : decode cX4_add 16 = .ok (.aload_n 0, 1) := by decide +kernel
theorem dX4_add_17 : decode cX4_add 17 = .ok (.getfield 33, 3) := by decide +kernel
theorem dX4_add_20 : decode cX4_add 20 = .ok (.iload_n 1, 1) := by decide +kernel
theorem dX4_add_21 : decode cX4_add 21 = .ok (.bipush 10, 2) := by decide +kernel
theorem dX4_add_23 : decode cX4_add 23 = .ok (.idiv, 1) := by decide +kernel
theorem dX4_add_24 : decode cX4_add 24 = .ok (.iastore, 1) := by decide +kernel
theorem dX4_add_25 : decode cX4_add 25 = .ok (.aload_n 0, 1) := by decide +kernel
theorem dX4_add_26 : decode cX4_add 26 = .ok (.getfield 15, 3) := by decide +kernel
theorem dX4_add_29 : decode cX4_add 29 = .ok (.aload_n 0, 1) := by decide +kernel
theorem dX4_add_30 : decode cX4_add 30 = .ok (.getfield 33, 3) := by decide +kernel
theorem dX4_add_33 : decode cX4_add 33 = .ok (.iload_n 1, 1) := by decide +kernel
theorem dX4_add_34 : decode cX4_add 34 = .ok (.bipush 10, 2) := by decide +kernel
theorem dX4_add_36 : decode cX4_add 36 = .ok (.irem, 1) := by decide +kernel
theorem dX4_add_37 : decode cX4_add 37 = .ok (.iastore, 1) := by decide +kernel
theorem dX4_add_38 : decode cX4_add 38 = .ok (.aload_n 0, 1) := by decide +kernel
theorem dX4_add_39 : decode cX4_add 39 = .ok (.getfield 18, 3) := by decide +kernel
theorem dX4_add_42 : decode cX4_add 42 = .ok (.aload_n 0, 1) := by decide +kernel
theorem dX4_add_43 : decode cX4_add 43 = .ok (.getfield 33, 3) := by decide +kernel
theorem dX4_add_46 : decode cX4_add 46 = .ok (.iload_n 2, 1) := by decide +kernel
theorem dX4_add_47 : decode cX4_add 47 = .ok (.iastore, 1) := by decide +kernel
theorem dX4_add_48 : decode cX4_add 48 = .ok (.aload_n 0, 1) := by decide +kernel
theorem dX4_add_49 : decode cX4_add 49 = .ok (.getfield 21, 3) := by decide +kernel
theorem dX4_add_52 : decode cX4_add 52 = .ok (.aload_n 0, 1) := by decide +kernel
theorem dX4_add_53 : decode cX4_add 53 = .ok (.getfield 33, 3) := by decide +kernel
theorem dX4_add_56 : decode cX4_add 56 = .ok (.iload_n 3, 1) := by decide +kernel
theorem dX4_add_57 : decode cX4_add 57 = .ok (.iastore, 1) := by decide +kernel
theorem dX4_add_58 : decode cX4_add 58 = .ok (.aload_n 0, 1) := by decide +kernel
theorem dX4_add_59 : decode cX4_add 59 = .ok (.dup, 1) := by decide +kernel
theorem dX4_add_60 : decode cX4_add 60 = .ok (.getfield 33, 3) := by decide +kernel
theorem dX4_add_63 : decode cX4_add 63 = .ok (.iconst 1, 1) := by decide +kernel
theorem dX4_add_64 : decode cX4_add 64 = .ok (.iadd, 1) := by decide +kernel
theorem dX4_add_65 : decode cX4_add 65 = .ok (.putfield 33, 3) := by decide +kernel
theorem dX4_add_68 : decode cX4_add 68 = .ok (.aload_n 0, 1) := by decide +kernel
theorem dX4_add_69 : decode cX4_add 69 = .ok (.getfield 33, 3) := by decide +kernel
theorem dX4_add_72 : decode cX4_add 72 = .ok (.iconst 1, 1) := by decide +kernel
theorem dX4_add_73 : decode cX4_add 73 = .ok (.isub, 1) := by decide +kernel
theorem dX4_add_74 : decode cX4_add 74 = .ok (.ireturn, 1) := by decide +kernel
theorem dX4_playAll_0 : decode cX4_playAll 0 = .ok (.iconst 0, 1) := by decide +kernel
theorem dX4_playAll_1 : decode cX4_playAll 1 = .ok (.istore_n 3, 1) := by decide +kernel
theorem dX4_playAll_2 : decode cX4_playAll 2 = .ok (.iload_n 3, 1) := by decide +kernel
theorem dX4_playAll_3 : decode cX4_playAll 3 = .ok (.iconst 4, 1) := by decide +kernel
theorem dX4_playAll_4 : decode cX4_playAll 4 = .ok (.if_icmp .ge 30, 3) := by decide +kernel
theorem dX4_playAll_7 : decode cX4_playAll 7 = .ok (.aload_n 0, 1) := by decide +kernel
theorem dX4_playAll_8 : decode cX4_playAll 8 = .ok (.getfield 24, 3) := by decide +kernel
theorem dX4_playAll_11 : decode cX4_playAll 11 = .ok (.iload_n 3, 1) := by decide +kernel
theorem dX4_playAll_12 : decode cX4_playAll 12 = .ok (.iconst 0, 1) := by decide +kernel
theorem dX4_playAll_13 : decode cX4_playAll 13 = .ok (.iastore, 1) := by decide +kernel
theorem dX4_playAll_14 : decode cX4_playAll 14 = .ok (.aload_n 0, 1) := by decide +kernel
theorem dX4_playAll_15 : decode cX4_playAll 15 = .ok (.getfield 27, 3) := by decide +kernel
theorem dX4_playAll_18 : decode cX4_playAll 18 = .ok (.iload_n 3, 1) := by decide +kernel
theorem dX4_playAll_19 : decode cX4_playAll 19 = .ok (.iconst 0, 1) := by decide +kernel
theorem dX4_playAll_20 : decode cX4_playAll 20 = .ok (.iastore, 1) := by decide +kernel
theorem dX4_playAll_21 : decode cX4_playAll 21 = .ok (.aload_n 0, 1) := by decide +kernel
theorem dX4_playAll_22 : decode cX4_playAll 22 = .ok (.getfield 30, 3) := by decide +kernel
theorem dX4_playAll_25 : decode cX4_playAll 25 = .ok (.iload_n 3, 1) := by decide +kernel
theorem dX4_playAll_26 : decode cX4_playAll 26 = .ok (.iconst 0, 1) := by decide +kernel
theorem dX4_playAll_27 : decode cX4_playAll 27 = .ok (.iastore, 1) := by decide +kernel
theorem dX4_playAll_28 : decode cX4_playAll 28 = .ok (.iinc 3 1, 3) := by decide +kernel
theorem dX4_playAll_31 : decode cX4_playAll 31 = .ok (.goto (-29), 3) := by decide +kernel
theorem dX4_playAll_34 : decode cX4_playAll 34 = .ok (.iconst 0, 1) := by decide +kernel
theorem dX4_playAll_35 : decode cX4_playAll 35 = .ok (.istore_n 3, 1) := by decide +kernel
theorem dX4_playAll_36 : decode cX4_playAll 36 = .ok (.iload_n 3, 1) := by decide +kernel
theorem dX4_playAll_37 : decode cX4_playAll 37 = .ok (.aload_n 0, 1) := by decide +kernel
theorem dX4_playAll_38 : decode cX4_playAll 38 = .ok (.getfield 33, 3) := by decide +kernel
theorem dX4_playAll_41 : decode cX4_playAll 41 = .ok (.if_icmp .ge 103, 3) := by decide +kernel
theorem dX4_playAll_44 : decode cX4_playAll 44 = .ok (.aload_n 0, 1) := by decide +kernel
theorem dX4_playAll_45 : decode cX4_playAll 45 = .ok (.getfield 21, 3) := by decide +kernel
theorem dX4_playAll_48 : decode cX4_playAll 48 = .ok (.iload_n 3, 1) := by decide +kernel
theorem dX4_playAll_49 : decode cX4_playAll 49 = .ok (.iaload, 1) := by decide +kernel
theorem dX4_playAll_50 : decode cX4_playAll 50 = .ok (.iload_n 1, 1) := by decide +kernel
theorem dX4_playAll_51 : decode cX4_playAll 51 = .ok (.iconst (-1), 1) := by decide +kernel
theorem dX4_playAll_52 : decode cX4_playAll 52 = .ok (.ixor, 1) := by decide +kernel
theorem dX4_playAll_53 : decode cX4_playAll 53 = .ok (.iand, 1) := by decide +kernel
theorem dX4_playAll_54 : decode cX4_playAll 54 = .ok (.istore 4, 2) := by decide +kernel
theorem dX4_playAll_56 : decode cX4_playAll 56 = .ok (.aload_n 0, 1) := by decide +kernel
theorem dX4_playAll_57 : decode cX4_playAll 57 = .ok (.getfield 18, 3) := by decide +kernel
theorem dX4_playAll_60 : decode cX4_playAll 60 = .ok (.iload_n 3, 1) := by decide +kernel
theorem dX4_playAll_61 : decode cX4_playAll 61 = .ok (.iaload, 1) := by decide +kernel
theorem dX4_playAll_62 : decode cX4_playAll 62 = .ok (.bipush 10, 2) := by decide +kernel
theorem dX4_playAll_64 : decode cX4_playAll 64 = .ok (.idiv, 1) := by decide +kernel
theorem dX4_playAll_65 : decode cX4_playAll 65 = .ok (.aload_n 2, 1) := by decide +kernel
theorem dX4_playAll_66 : decode cX4_playAll 66 = .ok (.aload_n 0, 1) := by decide +kernel
theorem dX4_playAll_67 : decode cX4_playAll 67 = .ok (.getfield 9, 3) := by decide +kernel
theorem dX4_playAll_70 : decode cX4_playAll 70 = .ok (.iload_n 3, 1) := by decide +kernel
theorem dX4_playAll_71 : decode cX4_playAll 71 = .ok (.iaload, 1) := by decide +kernel
theorem dX4_playAll_72 : decode cX4_playAll 72 = .ok (.iload 4, 2) := by decide +kernel
theorem dX4_playAll_74 : decode cX4_playAll 74 = .ok (.invokevirtual 37, 3) := by decide +kernel
theorem dX4_playAll_77 : decode cX4_playAll 77 = .ok (.invokestatic 43, 3) := by decide +kernel
theorem dX4_playAll_80 : decode cX4_playAll 80 = .ok (.iadd, 1) := by decide +kernel
theorem dX4_playAll_81 : decode cX4_playAll 81 = .ok (.istore 5, 2) := by decide +kernel
theorem dX4_playAll_83 : decode cX4_playAll 83 = .ok (.aload_n 0, 1) := by decide +kernel
theorem dX4_playAll_84 : decode cX4_playAll 84 = .ok (.getfield 18, 3) := by decide +kernel
theorem dX4_playAll_87 : decode cX4_playAll 87 = .ok (.iload_n 3, 1) := by decide +kernel
theorem dX4_playAll_88 : decode cX4_playAll 88 = .ok (.iaload, 1) := by decide +kernel
theorem dX4_playAll_89 : decode cX4_playAll 89 = .ok (.bipush 10, 2) := by decide +kernel
theorem dX4_playAll_91 : decode cX4_playAll 91 = .ok (.irem, 1) := by decide +kernel
theorem dX4_playAll_92 : decode cX4_playAll 92 = .ok (.aload_n 2, 1) := by decide +kernel
theorem dX4_playAll_93 : decode cX4_playAll 93 = .ok (.aload_n 0, 1) := by decide +kernel
theorem dX4_playAll_94 : decode cX4_playAll 94 = .ok (.getfield 15, 3) := by decide +kernel
theorem dX4_playAll_97 : decode cX4_playAll 97 = .ok (.iload_n 3, 1) := by decide +kernel
theorem dX4_playAll_98 : decode cX4_playAll 98 = .ok (.iaload, 1) := by decide +kernel
theorem dX4_playAll_99 : decode cX4_playAll 99 = .ok (.iload 4, 2) := by decide +kernel
theorem dX4_playAll_101 : decode cX4_playAll 101 = .ok (.invokevirtual 37, 3) := by decide +kernel
theorem dX4_playAll_104 : decode cX4_playAll 104 = .ok (.invokestatic 43, 3) := by decide +kernel
theorem dX4_playAll_107 : decode cX4_playAll 107 = .ok (.iadd, 1) := by decide +kernel
theorem dX4_playAll_108 : decode cX4_playAll 108 = .ok (.istore 6, 2) := by decide +kernel
theorem dX4_playAll_110 : decode cX4_playAll 110 = .ok (.aload_n 0, 1) := by decide +kernel
theorem dX4_playAll_111 : decode cX4_playAll 111 = .ok (.aload_n 0, 1) := by decide +kernel
theorem dX4_playAll_112 : decode cX4_playAll 112 = .ok (.getfield 9, 3) := by decide +kernel
theorem dX4_playAll_115 : decode cX4_playAll 115 = .ok (.iload_n 3, 1) := by decide +kernel
theorem dX4_playAll_116 : decode cX4_playAll 116 = .ok (.iaload, 1) := by decide +kernel
theorem dX4_playAll_117 : decode cX4_playAll 117 = .ok (.iload 5, 2) := by decide +kernel
theorem dX4_playAll_119 : decode cX4_playAll 119 = .ok (.iload 6, 2) := by decide +kernel
theorem dX4_playAll_121 : decode cX4_playAll 121 = .ok (.invokevirtual 49, 3) := by decide +kernel
theorem dX4_playAll_124 : decode cX4_playAll 124 = .ok (.aload_n 0, 1) := by decide +kernel
theorem dX4_playAll_125 : decode cX4_playAll 125 = .ok (.aload_n 0, 1) := by decide +kernel
theorem dX4_playAll_126 : decode cX4_playAll 126 = .ok (.getfield 15, 3) := by decide +kernel
theorem dX4_playAll_129 : decode cX4_playAll 129 = .ok (.iload_n 3, 1) := by decide +kernel
theorem dX4_playAll_130 : decode cX4_playAll 130 = .ok (.iaload, 1) := by decide +kernel
theorem dX4_playAll_131 : decode cX4_playAll 131 = .ok (.iload 6, 2) := by decide +kernel
theorem dX4_playAll_133 : decode cX4_playAll 133 = .ok (.iload 5, 2) := by decide +kernel
theorem dX4_playAll_135 : decode cX4_playAll 135 = .ok (.invokevirtual 49, 3) := by decide +kernel
theorem dX4_playAll_138 : decode cX4_playAll 138 = .ok (.iinc 3 1, 3) := by decide +kernel
theorem dX4_playAll_141 : decode cX4_playAll 141 = .ok (.goto (-105), 3) := by decide +kernel
theorem dX4_playAll_144 : decode cX4_playAll 144 = .ok (.return_, 1) := by decide +kernel
theorem dX4_score_0 : decode cX4_score 0 = .ok (.aload_n 0, 1) := by decide +kernel
theorem dX4_score_1 : decode cX4_score 1 = .ok (.getfield 27, 3) := by decide +kernel
theorem dX4_score_4 : decode cX4_score 4 = .ok (.iload_n 1, 1) := by decide +kernel
theorem dX4_score_5 : decode cX4_score 5 = .ok (.dup2, 1) := by decide +kernel
theorem dX4_score_6 : decode cX4_score 6 = .ok (.iaload, 1) := by decide +kernel
theorem dX4_score_7 : decode cX4_score 7 = .ok (.iload_n 2, 1) := by decide +kernel
theorem dX4_score_8 : decode cX4_score 8 = .ok (.iadd, 1) := by decide +kernel
theorem dX4_score_9 : decode cX4_score 9 = .ok (.iastore, 1) := by decide +kernel
theorem dX4_score_10 : decode cX4_score 10 = .ok (.aload_n 0, 1) := by decide +kernel
theorem dX4_score_11 : decode cX4_score 11 = .ok (.getfield 30, 3) := by decide +kernel
theorem dX4_score_14 : decode cX4_score 14 = .ok (.iload_n 1, 1) := by decide +kernel
theorem dX4_score_15 : decode cX4_score 15 = .ok (.dup2, 1) := by decide +kernel
theorem dX4_score_16 : decode cX4_score 16 = .ok (.iaload, 1) := by decide +kernel
theorem dX4_score_17 : decode cX4_score 17 = .ok (.iload_n 3, 1) := by decide +kernel
theorem dX4_score_18 : decode cX4_score 18 = .ok (.iadd, 1) := by decide +kernel
theorem dX4_score_19 : decode cX4_score 19 = .ok (.iastore, 1) := by decide +kernel
theorem dX4_score_20 : decode cX4_score 20 = .ok (.iload_n 2, 1) := by decide +kernel
theorem dX4_score_21 : decode cX4_score 21 = .ok (.iload_n 3, 1) := by decide +kernel
theorem dX4_score_22 : decode cX4_score 22 = .ok (.if_icmp .le 16, 3) := by decide +kernel
theorem dX4_score_25 : decode cX4_score 25 = .ok (.aload_n 0, 1) := by decide +kernel
theorem dX4_score_26 : decode cX4_score 26 = .ok (.getfield 24, 3) := by decide +kernel
theorem dX4_score_29 : decode cX4_score 29 = .ok (.iload_n 1, 1) := by decide +kernel
theorem dX4_score_30 : decode cX4_score 30 = .ok (.dup2, 1) := by decide +kernel
theorem dX4_score_31 : decode cX4_score 31 = .ok (.iaload, 1) := by decide +kernel
theorem dX4_score_32 : decode cX4_score 32 = .ok (.iconst 3, 1) := by decide +kernel
theorem dX4_score_33 : decode cX4_score 33 = .ok (.iadd, 1) := by decide +kernel
theorem dX4_score_34 : decode cX4_score 34 = .ok (.iastore, 1) := by decide +kernel
theorem dX4_score_35 : decode cX4_score 35 = .ok (.goto 18, 3) := by decide +kernel
theorem dX4_score_38 : decode cX4_score 38 = .ok (.iload_n 2, 1) := by decide +kernel
theorem dX4_score_39 : decode cX4_score 39 = .ok (.iload_n 3, 1) := by decide +kernel
theorem dX4_score_40 : decode cX4_score 40 = .ok (.if_icmp .ne 13, 3) := by decide +kernel
theorem dX4_score_43 : decode cX4_score 43 = .ok (.aload_n 0, 1) := by decide +kernel
theorem dX4_score_44 : decode cX4_score 44 = .ok (.getfield 24, 3) := by decide +kernel
theorem dX4_score_47 : decode cX4_score 47 = .ok (.iload_n 1, 1) := by decide +kernel
theorem dX4_score_48 : decode cX4_score 48 = .ok (.dup2, 1) := by decide +kernel
theorem dX4_score_49 : decode cX4_score 49 = .ok (.iaload, 1) := by decide +kernel
theorem dX4_score_50 : decode cX4_score 50 = .ok (.iconst 1, 1) := by decide +kernel
theorem dX4_score_51 : decode cX4_score 51 = .ok (.iadd, 1) := by decide +kernel
theorem dX4_score_52 : decode cX4_score 52 = .ok (.iastore, 1) := by decide +kernel
theorem dX4_score_53 : decode cX4_score 53 = .ok (.return_, 1) := by decide +kernel
theorem dX4_rankOf_0 : decode cX4_rankOf 0 = .ok (.iconst 0, 1) := by decide +kernel
theorem dX4_rankOf_1 : decode cX4_rankOf 1 = .ok (.istore_n 2, 1) := by decide +kernel
theorem dX4_rankOf_2 : decode cX4_rankOf 2 = .ok (.iconst 0, 1) := by decide +kernel
theorem dX4_rankOf_3 : decode cX4_rankOf 3 = .ok (.istore_n 3, 1) := by decide +kernel
theorem dX4_rankOf_4 : decode cX4_rankOf 4 = .ok (.iload_n 3, 1) := by decide +kernel
theorem dX4_rankOf_5 : decode cX4_rankOf 5 = .ok (.iconst 4, 1) := by decide +kernel
theorem dX4_rankOf_6 : decode cX4_rankOf 6 = .ok (.if_icmp .ge 26, 3) := by decide +kernel
theorem dX4_rankOf_9 : decode cX4_rankOf 9 = .ok (.iload_n 2, 1) := by decide +kernel
theorem dX4_rankOf_10 : decode cX4_rankOf 10 = .ok (.aload_n 0, 1) := by decide +kernel
theorem dX4_rankOf_11 : decode cX4_rankOf 11 = .ok (.iload_n 3, 1) := by decide +kernel
theorem dX4_rankOf_12 : decode cX4_rankOf 12 = .ok (.iload_n 1, 1) := by decide +kernel
theorem dX4_rankOf_13 : decode cX4_rankOf 13 = .ok (.invokevirtual 53, 3) := by decide +kernel
theorem dX4_rankOf_16 : decode cX4_rankOf 16 = .ok (.ifCond .eq 7, 3) := by decide +kernel
theorem dX4_rankOf_19 : decode cX4_rankOf 19 = .ok (.iconst 1, 1) := by decide +kernel
theorem dX4_rankOf_20 : decode cX4_rankOf 20 = .ok (.goto 4, 3) := by decide +kernel
theorem dX4_rankOf_23 : decode cX4_rankOf 23 = .ok (.iconst 0, 1) := by decide +kernel
theorem dX4_rankOf_24 : decode cX4_rankOf 24 = .ok (.iadd, 1) := by decide +kernel
theorem dX4_rankOf_25 : decode cX4_rankOf 25 = .ok (.istore_n 2, 1) := by decide +kernel
theorem dX4_rankOf_26 : decode cX4_rankOf 26 = .ok (.iinc 3 1, 3) := by decide +kernel
theorem dX4_rankOf_29 : decode cX4_rankOf 29 = .ok (.goto (-25), 3) := by decide +kernel
theorem dX4_rankOf_32 : decode cX4_rankOf 32 = .ok (.iload_n 2, 1) := by decide +kernel
theorem dX4_rankOf_33 : decode cX4_rankOf 33 = .ok (.ireturn, 1) := by decide +kernel
theorem dX4_isAbove_0 : decode cX4_isAbove 0 = .ok (.aload_n 0, 1) := by decide +kernel
theorem dX4_isAbove_1 : decode cX4_isAbove 1 = .ok (.getfield 24, 3) := by decide +kernel
theorem dX4_isAbove_4 : decode cX4_isAbove 4 = .ok (.iload_n 1, 1) := by decide +kernel
theorem dX4_isAbove_5 : decode cX4_isAbove 5 = .ok (.iaload, 1) := by decide +kernel
theorem dX4_isAbove_6 : decode cX4_isAbove 6 = .ok (.aload_n 0, 1) := by decide +kernel
theorem dX4_isAbove_7 : decode cX4_isAbove 7 = .ok (.getfield 24, 3) := by decide +kernel
theorem dX4_isAbove_10 : decode cX4_isAbove 10 = .ok (.iload_n 2, 1) := by decide +kernel
theorem dX4_isAbove_11 : decode cX4_isAbove 11 = .ok (.iaload, 1) := by decide +kernel
theorem dX4_isAbove_12 : decode cX4_isAbove 12 = .ok (.if_icmp .eq 24, 3) := by decide +kernel
theorem dX4_isAbove_15 : decode cX4_isAbove 15 = .ok (.aload_n 0, 1) := by decide +kernel
theorem dX4_isAbove_16 : decode cX4_isAbove 16 = .ok (.getfield 24, 3) := by decide +kernel
theorem dX4_isAbove_19 : decode cX4_isAbove 19 = .ok (.iload_n 1, 1) := by decide +kernel
theorem dX4_isAbove_20 : decode cX4_isAbove 20 = .ok (.iaload, 1) := by decide +kernel
theorem dX4_isAbove_21 : decode cX4_isAbove 21 = .ok (.aload_n 0, 1) := by decide +kernel
theorem dX4_isAbove_22 : decode cX4_isAbove 22 = .ok (.getfield 24, 3) := by decide +kernel
theorem dX4_isAbove_25 : decode cX4_isAbove 25 = .ok (.iload_n 2, 1) := by decide +kernel
theorem dX4_isAbove_26 : decode cX4_isAbove 26 = .ok (.iaload, 1) := by decide +kernel
theorem dX4_isAbove_27 : decode cX4_isAbove 27 = .ok (.if_icmp .le 7, 3) := by decide +kernel
theorem dX4_isAbove_30 : decode cX4_isAbove 30 = .ok (.iconst 1, 1) := by decide +kernel
theorem dX4_isAbove_31 : decode cX4_isAbove 31 = .ok (.goto 4, 3) := by decide +kernel
theorem dX4_isAbove_34 : decode cX4_isAbove 34 = .ok (.iconst 0, 1) := by decide +kernel
theorem dX4_isAbove_35 : decode cX4_isAbove 35 = .ok (.ireturn, 1) := by decide +kernel
theorem dX4_isAbove_36 : decode cX4_isAbove 36 = .ok (.aload_n 0, 1) := by decide +kernel
theorem dX4_isAbove_37 : decode cX4_isAbove 37 = .ok (.getfield 27, 3) := by decide +kernel
theorem dX4_isAbove_40 : decode cX4_isAbove 40 = .ok (.iload_n 1, 1) := by decide +kernel
theorem dX4_isAbove_41 : decode cX4_isAbove 41 = .ok (.iaload, 1) := by decide +kernel
theorem dX4_isAbove_42 : decode cX4_isAbove 42 = .ok (.aload_n 0, 1) := by decide +kernel
theorem dX4_isAbove_43 : decode cX4_isAbove 43 = .ok (.getfield 30, 3) := by decide +kernel
theorem dX4_isAbove_46 : decode cX4_isAbove 46 = .ok (.iload_n 1, 1) := by decide +kernel
theorem dX4_isAbove_47 : decode cX4_isAbove 47 = .ok (.iaload, 1) := by decide +kernel
theorem dX4_isAbove_48 : decode cX4_isAbove 48 = .ok (.isub, 1) := by decide +kernel
theorem dX4_isAbove_49 : decode cX4_isAbove 49 = .ok (.istore_n 3, 1) := by decide +kernel
theorem dX4_isAbove_50 : decode cX4_isAbove 50 = .ok (.aload_n 0, 1) := by decide +kernel
theorem dX4_isAbove_51 : decode cX4_isAbove 51 = .ok (.getfield 27, 3) := by decide +kernel
theorem dX4_isAbove_54 : decode cX4_isAbove 54 = .ok (.iload_n 2, 1) := by decide +kernel
theorem dX4_isAbove_55 : decode cX4_isAbove 55 = .ok (.iaload, 1) := by decide +kernel
theorem dX4_isAbove_56 : decode cX4_isAbove 56 = .ok (.aload_n 0, 1) := by decide +kernel
theorem dX4_isAbove_57 : decode cX4_isAbove 57 = .ok (.getfield 30, 3) := by decide +kernel
theorem dX4_isAbove_60 : decode cX4_isAbove 60 = .ok (.iload_n 2, 1) := by decide +kernel
theorem dX4_isAbove_61 : decode cX4_isAbove 61 = .ok (.iaload, 1) := by decide +kernel
theorem dX4_isAbove_62 : decode cX4_isAbove 62 = .ok (.isub, 1) := by decide +kernel
theorem dX4_isAbove_63 : decode cX4_isAbove 63 = .ok (.istore 4, 2) := by decide +kernel
theorem dX4_isAbove_65 : decode cX4_isAbove 65 = .ok (.iload_n 3, 1) := by decide +kernel
theorem dX4_isAbove_66 : decode cX4_isAbove 66 = .ok (.iload 4, 2) := by decide +kernel
theorem dX4_isAbove_68 : decode cX4_isAbove 68 = .ok (.if_icmp .eq 17, 3) := by decide +kernel
theorem dX4_isAbove_71 : decode cX4_isAbove 71 = .ok (.iload_n 3, 1) := by decide +kernel
theorem dX4_isAbove_72 : decode cX4_isAbove 72 = .ok (.iload 4, 2) := by decide +kernel
theorem dX4_isAbove_74 : decode cX4_isAbove 74 = .ok (.if_icmp .le 7, 3) := by decide +kernel
theorem dX4_isAbove_77 : decode cX4_isAbove 77 = .ok (.iconst 1, 1) := by decide +kernel
theorem dX4_isAbove_78 : decode cX4_isAbove 78 = .ok (.goto 27, 3) := by decide +kernel
theorem dX4_isAbove_81 : decode cX4_isAbove 81 = .ok (.iconst 0, 1) := by decide +kernel
theorem dX4_isAbove_82 : decode cX4_isAbove 82 = .ok (.goto 23, 3) := by decide +kernel
theorem dX4_isAbove_85 : decode cX4_isAbove 85 = .ok (.aload_n 0, 1) := by decide +kernel
theorem dX4_isAbove_86 : decode cX4_isAbove 86 = .ok (.getfield 27, 3) := by decide +kernel
theorem dX4_isAbove_89 : decode cX4_isAbove 89 = .ok (.iload_n 1, 1) := by decide +kernel
theorem dX4_isAbove_90 : decode cX4_isAbove 90 = .ok (.iaload, 1) := by decide +kernel
theorem dX4_isAbove_91 : decode cX4_isAbove 91 = .ok (.aload_n 0, 1) := by decide +kernel
theorem dX4_isAbove_92 : decode cX4_isAbove 92 = .ok (.getfield 27, 3) := by decide +kernel
theorem dX4_isAbove_95 : decode cX4_isAbove 95 = .ok (.iload_n 2, 1) := by decide +kernel
theorem dX4_isAbove_96 : decode cX4_isAbove 96 = .ok (.iaload, 1) := by decide +kernel
theorem dX4_isAbove_97 : decode cX4_isAbove 97 = .ok (.if_icmp .le 7, 3) := by decide +kernel
theorem dX4_isAbove_100 : decode cX4_isAbove 100 = .ok (.iconst 1, 1) := by decide +kernel
theorem dX4_isAbove_101 : decode cX4_isAbove 101 = .ok (.goto 4, 3) := by decide +kernel
theorem dX4_isAbove_104 : decode cX4_isAbove 104 = .ok (.iconst 0, 1) := by decide +kernel
theorem dX4_isAbove_105 : decode cX4_isAbove 105 = .ok (.ireturn, 1) := by decide +kernel
theorem dX4_allRanks_0 : decode cX4_allRanks 0 = .ok (.iconst 0, 1) := by decide +kernel
theorem dX4_allRanks_1 : decode cX4_allRanks 1 = .ok (.istore_n 1, 1) := by decide +kernel
theorem dX4_allRanks_2 : decode cX4_allRanks 2 = .ok (.iconst 0, 1) := by decide +kernel
theorem dX4_allRanks_3 : decode cX4_allRanks 3 = .ok (.istore_n 2, 1) := by decide +kernel
theorem dX4_allRanks_4 : decode cX4_allRanks 4 = .ok (.iload_n 2, 1) := by decide +kernel
theorem dX4_allRanks_5 : decode cX4_allRanks 5 = .ok (.iconst 4, 1) := by decide +kernel
theorem dX4_allRanks_6 : decode cX4_allRanks 6 = .ok (.if_icmp .ge 19, 3) := by decide +kernel
theorem dX4_allRanks_9 : decode cX4_allRanks 9 = .ok (.iload_n 1, 1) := by decide +kernel
theorem dX4_allRanks_10 : decode cX4_allRanks 10 = .ok (.iconst 4, 1) := by decide +kernel
theorem dX4_allRanks_11 : decode cX4_allRanks 11 = .ok (.imul, 1) := by decide +kernel
theorem dX4_allRanks_12 : decode cX4_allRanks 12 = .ok (.aload_n 0, 1) := by decide +kernel
theorem dX4_allRanks_13 : decode cX4_allRanks 13 = .ok (.iload_n 2, 1) := by decide +kernel
theorem dX4_allRanks_14 : decode cX4_allRanks 14 = .ok (.invokevirtual 57, 3) := by decide +kernel
theorem dX4_allRanks_17 : decode cX4_allRanks 17 = .ok (.iadd, 1) := by decide +kernel
theorem dX4_allRanks_18 : decode cX4_allRanks 18 = .ok (.istore_n 1, 1) := by decide +kernel
theorem dX4_allRanks_19 : decode cX4_allRanks 19 = .ok (.iinc 2 1, 3) := by decide +kernel
theorem dX4_allRanks_22 : decode cX4_allRanks 22 = .ok (.goto (-18), 3) := by decide +kernel
theorem dX4_allRanks_25 : decode cX4_allRanks 25 = .ok (.iload_n 1, 1) := by decide +kernel
theorem dX4_allRanks_26 : decode cX4_allRanks 26 = .ok (.ireturn, 1) := by decide +kernel
theorem dX5_init_0 : decode cX5_init 0 = .ok (.aload_n 0, 1) := by decide +kernel
theorem dX5_init_1 : decode cX5_init 1 = .ok (.invokespecial 3, 3) := by decide +kernel
theorem dX5_init_4 : decode cX5_init 4 = .ok (.aload_n 0, 1) := by decide +kernel
theorem dX5_init_5 : decode cX5_init 5 = .ok (.new 9, 3) := by decide +kernel
theorem dX5_init_8 : decode cX5_init 8 = .ok (.dup, 1) := by decide +kernel
theorem dX5_init_9 : decode cX5_init 9 = .ok (.invokespecial 11, 3) := by decide +kernel
theorem dX5_init_12 : decode cX5_init 12 = .ok (.putfield 12, 3) := by decide +kernel
theorem dX5_init_15 : decode cX5_init 15 = .ok (.aload_n 0, 1) := by decide +kernel
theorem dX5_init_16 : decode cX5_init 16 = .ok (.new 18, 3) := by decide +kernel
theorem dX5_init_19 : decode cX5_init 19 = .ok (.dup, 1) := by decide +kernel
theorem dX5_init_20 : decode cX5_init 20 = .ok (.invokespecial 20, 3) := by decide +kernel
theorem dX5_init_23 : decode cX5_init 23 = .ok (.putfield 21, 3) := by decide +kernel
theorem dX5_init_26 : decode cX5_init 26 = .ok (.aload_n 0, 1) := by decide +kernel
theorem dX5_init_27 : decode cX5_init 27 = .ok (.new 25, 3) := by decide +kernel
theorem dX5_init_30 : decode cX5_init 30 = .ok (.dup, 1) := by decide +kernel
theorem dX5_init_31 : decode cX5_init 31 = .ok (.invokespecial 27, 3) := by decide +kernel
theorem dX5_init_34 : decode cX5_init 34 = .ok (.putfield 28, 3) := by decide +kernel
theorem dX5_init_37 : decode cX5_init 37 = .ok (.aload_n 0, 1) := by decide +kernel
theorem dX5_init_38 : decode cX5_init 38 = .ok (.new 32, 3) := by decide +kernel
theorem dX5_init_41 : decode cX5_init 41 = .ok (.dup, 1) := by decide +kernel
theorem dX5_init_42 : decode cX5_init 42 = .ok (.invokespecial 34, 3) := by decide +kernel
theorem dX5_init_45 : decode cX5_init 45 = .ok (.putfield 35, 3) := by decide +kernel
theorem dX5_init_48 : decode cX5_init 48 = .ok (.aload_n 0, 1) := by decide +kernel
theorem dX5_init_49 : decode cX5_init 49 = .ok (.new 39, 3) := by decide +kernel
theorem dX5_init_52 : decode cX5_init 52 = .ok (.dup, 1) := by decide +kernel
theorem dX5_init_53 : decode cX5_init 53 = .ok (.invokespecial 41, 3) := by decide +kernel
theorem dX5_init_56 : decode cX5_init 56 = .ok (.putfield 42, 3) := by decide +kernel
theorem dX5_init_59 : decode cX5_init 59 = .ok (.aload_n 0, 1) := by decide +kernel
theorem dX5_init_60 : decode cX5_init 60 = .ok (.iconst (-1), 1) := by decide +kernel
theorem dX5_init_61 : decode cX5_init 61 = .ok (.putfield 46, 3) := by decide +kernel
theorem dX5_init_64 : decode cX5_init 64 = .ok (.return_, 1) := by decide +kernel
theorem dX5_lookAs_0 : decode cX5_lookAs 0 = .ok (.aload_n 0, 1) := by decide +kernel
theorem dX5_lookAs_1 : decode cX5_lookAs 1 = .ok (.iload_n 1, 1) := by decide +kernel
theorem dX5_lookAs_2 : decode cX5_lookAs 2 = .ok (.iconst (-1), 1) := by decide +kernel
theorem dX5_lookAs_3 : decode cX5_lookAs 3 = .ok (.iconst 0, 1) := by decide +kernel
theorem dX5_lookAs_4 : decode cX5_lookAs 4 = .ok (.invokevirtual 50, 3) := by decide +kernel
theorem dX5_lookAs_7 : decode cX5_lookAs 7 = .ok (.return_, 1) := by decide +kernel
theorem dX5_lookAsStanding_0 : decode cX5_lookAsStanding 0 = .ok (.aload_n 0, 1) := by decide +kernel
theorem dX5_lookAsStanding_1 : decode cX5_lookAsStanding 1 = .ok (.iload_n 1, 1) := by decide +kernel
theorem dX5_lookAsStanding_2 : decode cX5_lookAsStanding 2 = .ok (.putfield 54, 3) := by decide +kernel
theorem dX5_lookAsStanding_5 : decode cX5_lookAsStanding 5 = .ok (.aload_n 0, 1) := by decide +kernel
theorem dX5_lookAsStanding_6 : decode cX5_lookAsStanding 6 = .ok (.iload_n 2, 1) := by decide +kernel
theorem dX5_lookAsStanding_7 : decode cX5_lookAsStanding 7 = .ok (.putfield 46, 3) := by decide +kernel
theorem dX5_lookAsStanding_10 : decode cX5_lookAsStanding 10 = .ok (.aload_n 0, 1) := by decide +kernel
theorem dX5_lookAsStanding_11 : decode cX5_lookAsStanding 11 = .ok (.iload_n 3, 1) := by decide +kernel
theorem dX5_lookAsStanding_12 : decode cX5_lookAsStanding 12 = .ok (.putfield 57, 3) := by decide +kernel
theorem dX5_lookAsStanding_15 : decode cX5_lookAsStanding 15 = .ok (.return_, 1) := by decide +kernel
theorem dX5_whereIs_0 : decode cX5_whereIs 0 = .ok (.aload_n 0, 1) := by decide +kernel
theorem dX5_whereIs_1 : decode cX5_whereIs 1 = .ok (.getfield 12, 3) := by decide +kernel
theorem dX5_whereIs_4 : decode cX5_whereIs 4 = .ok (.getfield 60, 3) := by decide +kernel
theorem dX5_whereIs_7 : decode cX5_whereIs 7 = .ok (.iload_n 1, 1) := by decide +kernel
theorem dX5_whereIs_8 : decode cX5_whereIs 8 = .ok (.iaload, 1) := by decide +kernel
theorem dX5_whereIs_9 : decode cX5_whereIs 9 = .ok (.aload_n 0, 1) := by decide +kernel
theorem dX5_whereIs_10 : decode cX5_whereIs 10 = .ok (.getfield 46, 3) := by decide +kernel
theorem dX5_whereIs_13 : decode cX5_whereIs 13 = .ok (.if_icmp .ne 10, 3) := by decide +kernel
theorem dX5_whereIs_16 : decode cX5_whereIs 16 = .ok (.aload_n 0, 1) := by decide +kernel
theorem dX5_whereIs_17 : decode cX5_whereIs 17 = .ok (.getfield 57, 3) := by decide +kernel
theorem dX5_whereIs_20 : decode cX5_whereIs 20 = .ok (.goto 4, 3) := by decide +kernel
theorem dX5_whereIs_23 : decode cX5_whereIs 23 = .ok (.iconst 0, 1) := by decide +kernel
theorem dX5_whereIs_24 : decode cX5_whereIs 24 = .ok (.istore_n 3, 1) := by decide +kernel
theorem dX5_whereIs_25 : decode cX5_whereIs 25 = .ok (.aload_n 0, 1) := by decide +kernel
theorem dX5_whereIs_26 : decode cX5_whereIs 26 = .ok (.getfield 12, 3) := by decide +kernel
theorem dX5_whereIs_29 : decode cX5_whereIs 29 = .ok (.getfield 64, 3) := by decide +kernel
theorem dX5_whereIs_32 : decode cX5_whereIs 32 = .ok (.iload_n 1, 1) := by decide +kernel
theorem dX5_whereIs_33 : decode cX5_whereIs 33 = .ok (.iaload, 1) := by decide +kernel
theorem dX5_whereIs_34 : decode cX5_whereIs 34 = .ok (.iload_n 3, 1) := by decide +kernel
theorem dX5_whereIs_35 : decode cX5_whereIs 35 = .ok (.isub, 1) := by decide +kernel
theorem dX5_whereIs_36 : decode cX5_whereIs 36 = .ok (.iload_n 2, 1) := by decide +kernel
theorem dX5_whereIs_37 : decode cX5_whereIs 37 = .ok (.aload_n 0, 1) := by decide +kernel
theorem dX5_whereIs_38 : decode cX5_whereIs 38 = .ok (.getfield 12, 3) := by decide +kernel
theorem dX5_whereIs_41 : decode cX5_whereIs 41 = .ok (.getfield 67, 3) := by decide +kernel
theorem dX5_whereIs_44 : decode cX5_whereIs 44 = .ok (.iload_n 1, 1) := by decide +kernel
theorem dX5_whereIs_45 : decode cX5_whereIs 45 = .ok (.iaload, 1) := by decide +kernel
theorem dX5_whereIs_46 : decode cX5_whereIs 46 = .ok (.imul, 1) := by decide +kernel
theorem dX5_whereIs_47 : decode cX5_whereIs 47 = .ok (.iadd, 1) := by decide +kernel
theorem dX5_whereIs_48 : decode cX5_whereIs 48 = .ok (.ireturn, 1) := by decide +kernel
theorem dX5_leadOf_0 : decode cX5_leadOf 0 = .ok (.aload_n 0, 1) := by decide +kernel
theorem dX5_leadOf_1 : decode cX5_leadOf 1 = .ok (.getfield 35, 3) := by decide +kernel
theorem dX5_leadOf_4 : decode cX5_leadOf 4 = .ok (.aload_n 0, 1) := by decide +kernel
theorem dX5_leadOf_5 : decode cX5_leadOf 5 = .ok (.getfield 12, 3) := by decide +kernel
theorem dX5_leadOf_8 : decode cX5_leadOf 8 = .ok (.getfield 67, 3) := by decide +kernel
theorem dX5_leadOf_11 : decode cX5_leadOf 11 = .ok (.iload_n 1, 1) := by decide +kernel
theorem dX5_leadOf_12 : decode cX5_leadOf 12 = .ok (.iaload, 1) := by decide +kernel
theorem dX5_leadOf_13 : decode cX5_leadOf 13 = .ok (.aload_n 0, 1) := by decide +kernel
theorem dX5_leadOf_14 : decode cX5_leadOf 14 = .ok (.getfield 12, 3) := by decide +kernel
theorem dX5_leadOf_17 : decode cX5_leadOf 17 = .ok (.getfield 60, 3) := by decide +kernel
theorem dX5_leadOf_20 : decode cX5_leadOf 20 = .ok (.iload_n 1, 1) := by decide +kernel
theorem dX5_leadOf_21 : decode cX5_leadOf 21 = .ok (.iaload, 1) := by decide +kernel
theorem dX5_leadOf_22 : decode cX5_leadOf 22 = .ok (.iload_n 2, 1) := by decide +kernel
theorem dX5_leadOf_23 : decode cX5_leadOf 23 = .ok (.aload_n 0, 1) := by decide +kernel
theorem dX5_leadOf_24 : decode cX5_leadOf 24 = .ok (.getfield 54, 3) := by decide +kernel
theorem dX5_leadOf_27 : decode cX5_leadOf 27 = .ok (.invokevirtual 70, 3) := by decide +kernel
theorem dX5_leadOf_30 : decode cX5_leadOf 30 = .ok (.iconst (-1), 1) := by decide +kernel
theorem dX5_leadOf_31 : decode cX5_leadOf 31 = .ok (.istore_n 3, 1) := by decide +kernel
theorem dX5_leadOf_32 : decode cX5_leadOf 32 = .ok (.iconst 0, 1) := by decide +kernel
theorem dX5_leadOf_33 : decode cX5_leadOf 33 = .ok (.istore 4, 2) := by decide +kernel
theorem dX5_leadOf_35 : decode cX5_leadOf 35 = .ok (.iload 4, 2) := by decide +kernel
theorem dX5_leadOf_37 : decode cX5_leadOf 37 = .ok (.iconst 4, 1) := by decide +kernel
theorem dX5_leadOf_38 : decode cX5_leadOf 38 = .ok (.if_icmp .ge 70, 3) := by decide +kernel
theorem dX5_leadOf_41 : decode cX5_leadOf 41 = .ok (.aload_n 0, 1) := by decide +kernel
theorem dX5_leadOf_42 : decode cX5_leadOf 42 = .ok (.getfield 12, 3) := by decide +kernel
theorem dX5_leadOf_45 : decode cX5_leadOf 45 = .ok (.iload_n 1, 1) := by decide +kernel
theorem dX5_leadOf_46 : decode cX5_leadOf 46 = .ok (.iload 4, 2) := by decide +kernel
theorem dX5_leadOf_48 : decode cX5_leadOf 48 = .ok (.invokevirtual 74, 3) := by decide +kernel
theorem dX5_leadOf_51 : decode cX5_leadOf 51 = .ok (.istore 5, 2) := by decide +kernel
theorem dX5_leadOf_53 : decode cX5_leadOf 53 = .ok (.iload_n 3, 1) := by decide +kernel
theorem dX5_leadOf_54 : decode cX5_leadOf 54 = .ok (.iconst (-1), 1) := by decide +kernel
theorem dX5_leadOf_55 : decode cX5_leadOf 55 = .ok (.if_icmp .eq 17, 3) := by decide +kernel
theorem dX5_leadOf_58 : decode cX5_leadOf 58 = .ok (.iload 5, 2) := by decide +kernel
theorem dX5_leadOf_60 : decode cX5_leadOf 60 = .ok (.aload_n 0, 1) := by decide +kernel
theorem dX5_leadOf_61 : decode cX5_leadOf 61 = .ok (.getfield 12, 3) := by decide +kernel
theorem dX5_leadOf_64 : decode cX5_leadOf 64 = .ok (.iload_n 1, 1) := by decide +kernel
theorem dX5_leadOf_65 : decode cX5_leadOf 65 = .ok (.iload_n 3, 1) := by decide +kernel
theorem dX5_leadOf_66 : decode cX5_leadOf 66 = .ok (.invokevirtual 74, 3) := by decide +kernel
theorem dX5_leadOf_69 : decode cX5_leadOf 69 = .ok (.if_icmp .le 7, 3) := by decide +kernel
theorem dX5_leadOf_72 : decode cX5_leadOf 72 = .ok (.iconst 1, 1) := by decide +kernel
theorem dX5_leadOf_73 : decode cX5_leadOf 73 = .ok (.goto 4, 3) := by decide +kernel
theorem dX5_leadOf_76 : decode cX5_leadOf 76 = .ok (.iconst 0, 1) := by decide +kernel
theorem dX5_leadOf_77 : decode cX5_leadOf 77 = .ok (.istore 6, 2) := by decide +kernel
theorem dX5_leadOf_79 : decode cX5_leadOf 79 = .ok (.iload 6, 2) := by decide +kernel
theorem dX5_leadOf_81 : decode cX5_leadOf 81 = .ok (.ifCond .eq 21, 3) := by decide +kernel
theorem dX5_leadOf_84 : decode cX5_leadOf 84 = .ok (.aload_n 0, 1) := by decide +kernel
theorem dX5_leadOf_85 : decode cX5_leadOf 85 = .ok (.getfield 35, 3) := by decide +kernel
theorem dX5_leadOf_88 : decode cX5_leadOf 88 = .ok (.iconst 0, 1) := by decide +kernel
theorem dX5_leadOf_89 : decode cX5_leadOf 89 = .ok (.iload 4, 2) := by decide +kernel
theorem dX5_leadOf_91 : decode cX5_leadOf 91 = .ok (.iload 5, 2) := by decide +kernel
theorem dX5_leadOf_93 : decode cX5_leadOf 93 = .ok (.invokevirtual 78, 3) := by decide +kernel
theorem dX5_leadOf_96 : decode cX5_leadOf 96 = .ok (.ifCond .eq 6, 3) := by decide +kernel
theorem dX5_leadOf_99 : decode cX5_leadOf 99 = .ok (.iload 4, 2) := by decide +kernel
theorem dX5_leadOf_101 : decode cX5_leadOf 101 = .ok (.istore_n 3, 1) := by decide +kernel
theorem dX5_leadOf_102 : decode cX5_leadOf 102 = .ok (.iinc 4 1, 3) := by decide +kernel
theorem dX5_leadOf_105 : decode cX5_leadOf 105 = .ok (.goto (-70), 3) := by decide +kernel
theorem dX5_leadOf_108 : decode cX5_leadOf 108 = .ok (.iload_n 3, 1) := by decide +kernel
theorem dX5_leadOf_109 : decode cX5_leadOf 109 = .ok (.ireturn, 1) := by decide +kernel
theorem dX5_frontOf_0 : decode cX5_frontOf 0 = .ok (.aload_n 0, 1) := by decide +kernel
theorem dX5_frontOf_1 : decode cX5_frontOf 1 = .ok (.iload_n 1, 1) := by decide +kernel
theorem dX5_frontOf_2 : decode cX5_frontOf 2 = .ok (.iload_n 2, 1) := by decide +kernel
theorem dX5_frontOf_3 : decode cX5_frontOf 3 = .ok (.invokevirtual 82, 3) := by decide +kernel
theorem dX5_frontOf_6 : decode cX5_frontOf 6 = .ok (.istore_n 3, 1) := by decide +kernel
theorem dX5_frontOf_7 : decode cX5_frontOf 7 = .ok (.iload_n 3, 1) := by decide +kernel
theorem dX5_frontOf_8 : decode cX5_frontOf 8 = .ok (.iconst (-1), 1) := by decide +kernel
theorem dX5_frontOf_9 : decode cX5_frontOf 9 = .ok (.if_icmp .ne 7, 3) := by decide +kernel
theorem dX5_frontOf_12 : decode cX5_frontOf 12 = .ok (.iconst 0, 1) := by decide +kernel
theorem dX5_frontOf_13 : decode cX5_frontOf 13 = .ok (.goto 12, 3) := by decide +kernel
theorem dX5_frontOf_16 : decode cX5_frontOf 16 = .ok (.aload_n 0, 1) := by decide +kernel
theorem dX5_frontOf_17 : decode cX5_frontOf 17 = .ok (.getfield 12, 3) := by decide +kernel
theorem dX5_frontOf_20 : decode cX5_frontOf 20 = .ok (.iload_n 1, 1) := by decide +kernel
theorem dX5_frontOf_21 : decode cX5_frontOf 21 = .ok (.iload_n 3, 1) := by decide +kernel
theorem dX5_frontOf_22 : decode cX5_frontOf 22 = .ok (.invokevirtual 74, 3) := by decide +kernel
theorem dX5_frontOf_25 : decode cX5_frontOf 25 = .ok (.istore 4, 2) := by decide +kernel
theorem dX5_frontOf_27 : decode cX5_frontOf 27 = .ok (.aload_n 0, 1) := by decide +kernel
theorem dX5_frontOf_28 : decode cX5_frontOf 28 = .ok (.iload_n 1, 1) := by decide +kernel
theorem dX5_frontOf_29 : decode cX5_frontOf 29 = .ok (.iload_n 2, 1) := by decide +kernel
theorem dX5_frontOf_30 : decode cX5_frontOf 30 = .ok (.invokevirtual 85, 3) := by decide +kernel
theorem dX5_frontOf_33 : decode cX5_frontOf 33 = .ok (.iload 4, 2) := by decide +kernel
theorem dX5_frontOf_35 : decode cX5_frontOf 35 = .ok (.iadd, 1) := by decide +kernel
theorem dX5_frontOf_36 : decode cX5_frontOf 36 = .ok (.ireturn, 1) := by decide +kernel
theorem dX5_worthOf_0 : decode cX5_worthOf 0 = .ok (.aload_n 0, 1) := by decide +kernel
theorem dX5_worthOf_1 : decode cX5_worthOf 1 = .ok (.getfield 35, 3) := by decide +kernel
theorem dX5_worthOf_4 : decode cX5_worthOf 4 = .ok (.aload_n 0, 1) := by decide +kernel
theorem dX5_worthOf_5 : decode cX5_worthOf 5 = .ok (.getfield 12, 3) := by decide +kernel
theorem dX5_worthOf_8 : decode cX5_worthOf 8 = .ok (.getfield 67, 3) := by decide +kernel
theorem dX5_worthOf_11 : decode cX5_worthOf 11 = .ok (.iload_n 1, 1) := by decide +kernel
theorem dX5_worthOf_12 : decode cX5_worthOf 12 = .ok (.iaload, 1) := by decide +kernel
theorem dX5_worthOf_13 : decode cX5_worthOf 13 = .ok (.aload_n 0, 1) := by decide +kernel
theorem dX5_worthOf_14 : decode cX5_worthOf 14 = .ok (.getfield 12, 3) := by decide +kernel
theorem dX5_worthOf_17 : decode cX5_worthOf 17 = .ok (.getfield 60, 3) := by decide +kernel
theorem dX5_worthOf_20 : decode cX5_worthOf 20 = .ok (.iload_n 1, 1) := by decide +kernel
theorem dX5_worthOf_21 : decode cX5_worthOf 21 = .ok (.iaload, 1) := by decide +kernel
theorem dX5_worthOf_22 : decode cX5_worthOf 22 = .ok (.iload_n 3, 1) := by decide +kernel
theorem dX5_worthOf_23 : decode cX5_worthOf 23 = .ok (.aload_n 0, 1) := by decide +kernel
theorem dX5_worthOf_24 : decode cX5_worthOf 24 = .ok (.getfield 54, 3) := by decide +kernel
theorem dX5_worthOf_27 : decode cX5_worthOf 27 = .ok (.invokevirtual 70, 3) := by decide +kernel
theorem dX5_worthOf_30 : decode cX5_worthOf 30 = .ok (.aload_n 0, 1) := by decide +kernel
theorem dX5_worthOf_31 : decode cX5_worthOf 31 = .ok (.getfield 35, 3) := by decide +kernel
theorem dX5_worthOf_34 : decode cX5_worthOf 34 = .ok (.iload 4, 2) := by decide +kernel
theorem dX5_worthOf_36 : decode cX5_worthOf 36 = .ok (.iload_n 2, 1) := by decide +kernel
theorem dX5_worthOf_37 : decode cX5_worthOf 37 = .ok (.aload_n 0, 1) := by decide +kernel
theorem dX5_worthOf_38 : decode cX5_worthOf 38 = .ok (.getfield 12, 3) := by decide +kernel
theorem dX5_worthOf_41 : decode cX5_worthOf 41 = .ok (.iload_n 1, 1) := by decide +kernel
theorem dX5_worthOf_42 : decode cX5_worthOf 42 = .ok (.iload_n 2, 1) := by decide +kernel
theorem dX5_worthOf_43 : decode cX5_worthOf 43 = .ok (.invokevirtual 74, 3) := by decide +kernel
theorem dX5_worthOf_46 : decode cX5_worthOf 46 = .ok (.invokevirtual 78, 3) := by decide +kernel
theorem dX5_worthOf_49 : decode cX5_worthOf 49 = .ok (.ireturn, 1) := by decide +kernel
theorem dX5_ruledOn_0 : decode cX5_ruledOn 0 = .ok (.aload_n 0, 1) := by decide +kernel
theorem dX5_ruledOn_1 : decode cX5_ruledOn 1 = .ok (.iload_n 1, 1) := by decide +kernel
theorem dX5_ruledOn_2 : decode cX5_ruledOn 2 = .ok (.aload_n 0, 1) := by decide +kernel
theorem dX5_ruledOn_3 : decode cX5_ruledOn 3 = .ok (.iload_n 1, 1) := by decide +kernel
theorem dX5_ruledOn_4 : decode cX5_ruledOn 4 = .ok (.iload_n 2, 1) := by decide +kernel
theorem dX5_ruledOn_5 : decode cX5_ruledOn 5 = .ok (.invokevirtual 82, 3) := by decide +kernel
theorem dX5_ruledOn_8 : decode cX5_ruledOn 8 = .ok (.invokestatic 88, 3) := by decide +kernel
theorem dX5_ruledOn_11 : decode cX5_ruledOn 11 = .ok (.iload_n 2, 1) := by decide +kernel
theorem dX5_ruledOn_12 : decode cX5_ruledOn 12 = .ok (.iload_n 3, 1) := by decide +kernel
theorem dX5_ruledOn_13 : decode cX5_ruledOn 13 = .ok (.invokevirtual 92, 3) := by decide +kernel
theorem dX5_ruledOn_16 : decode cX5_ruledOn 16 = .ok (.ireturn, 1) := by decide +kernel
theorem dX5_trueMargin_0 : decode cX5_trueMargin 0 = .ok (.aload_n 0, 1) := by decide +kernel
theorem dX5_trueMargin_1 : decode cX5_trueMargin 1 = .ok (.aload_n 0, 1) := by decide +kernel
theorem dX5_trueMargin_2 : decode cX5_trueMargin 2 = .ok (.getfield 42, 3) := by decide +kernel
theorem dX5_trueMargin_5 : decode cX5_trueMargin 5 = .ok (.getfield 96, 3) := by decide +kernel
theorem dX5_trueMargin_8 : decode cX5_trueMargin 8 = .ok (.iload_n 1, 1) := by decide +kernel
theorem dX5_trueMargin_9 : decode cX5_trueMargin 9 = .ok (.iaload, 1) := by decide +kernel
theorem dX5_trueMargin_10 : decode cX5_trueMargin 10 = .ok (.iload_n 2, 1) := by decide +kernel
theorem dX5_trueMargin_11 : decode cX5_trueMargin 11 = .ok (.invokevirtual 99, 3) := by decide +kernel
theorem dX5_trueMargin_14 : decode cX5_trueMargin 14 = .ok (.aload_n 0, 1) := by decide +kernel
theorem dX5_trueMargin_15 : decode cX5_trueMargin 15 = .ok (.aload_n 0, 1) := by decide +kernel
theorem dX5_trueMargin_16 : decode cX5_trueMargin 16 = .ok (.getfield 42, 3) := by decide +kernel
theorem dX5_trueMargin_19 : decode cX5_trueMargin 19 = .ok (.getfield 102, 3) := by decide +kernel
theorem dX5_trueMargin_22 : decode cX5_trueMargin 22 = .ok (.iload_n 1, 1) := by decide +kernel
theorem dX5_trueMargin_23 : decode cX5_trueMargin 23 = .ok (.iaload, 1) := by decide +kernel
theorem dX5_trueMargin_24 : decode cX5_trueMargin 24 = .ok (.iload_n 2, 1) := by decide +kernel
theorem dX5_trueMargin_25 : decode cX5_trueMargin 25 = .ok (.invokevirtual 99, 3) := by decide +kernel
theorem dX5_trueMargin_28 : decode cX5_trueMargin 28 = .ok (.isub, 1) := by decide +kernel
theorem dX5_trueMargin_29 : decode cX5_trueMargin 29 = .ok (.ireturn, 1) := by decide +kernel
theorem dX5_leanOn_0 : decode cX5_leanOn 0 = .ok (.aload_n 0, 1) := by decide +kernel
theorem dX5_leanOn_1 : decode cX5_leanOn 1 = .ok (.getfield 28, 3) := by decide +kernel
theorem dX5_leanOn_4 : decode cX5_leanOn 4 = .ok (.getfield 105, 3) := by decide +kernel
theorem dX5_leanOn_7 : decode cX5_leanOn 7 = .ok (.aload_n 0, 1) := by decide +kernel
theorem dX5_leanOn_8 : decode cX5_leanOn 8 = .ok (.getfield 42, 3) := by decide +kernel
theorem dX5_leanOn_11 : decode cX5_leanOn 11 = .ok (.getfield 108, 3) := by decide +kernel
theorem dX5_leanOn_14 : decode cX5_leanOn 14 = .ok (.iload_n 1, 1) := by decide +kernel
theorem dX5_leanOn_15 : decode cX5_leanOn 15 = .ok (.iaload, 1) := by decide +kernel
theorem dX5_leanOn_16 : decode cX5_leanOn 16 = .ok (.iaload, 1) := by decide +kernel
theorem dX5_leanOn_17 : decode cX5_leanOn 17 = .ok (.istore_n 3, 1) := by decide +kernel
theorem dX5_leanOn_18 : decode cX5_leanOn 18 = .ok (.aload_n 0, 1) := by decide +kernel
theorem dX5_leanOn_19 : decode cX5_leanOn 19 = .ok (.getfield 12, 3) := by decide +kernel
theorem dX5_leanOn_22 : decode cX5_leanOn 22 = .ok (.getfield 67, 3) := by decide +kernel
theorem dX5_leanOn_25 : decode cX5_leanOn 25 = .ok (.iload_n 2, 1) := by decide +kernel
theorem dX5_leanOn_26 : decode cX5_leanOn 26 = .ok (.iaload, 1) := by decide +kernel
theorem dX5_leanOn_27 : decode cX5_leanOn 27 = .ok (.ifCond .le 7, 3) := by decide +kernel
theorem dX5_leanOn_30 : decode cX5_leanOn 30 = .ok (.iload_n 3, 1) := by decide +kernel
theorem dX5_leanOn_31 : decode cX5_leanOn 31 = .ok (.goto 5, 3) := by decide +kernel
theorem dX5_leanOn_34 : decode cX5_leanOn 34 = .ok (.iload_n 3, 1) := by decide +kernel
theorem dX5_leanOn_35 : decode cX5_leanOn 35 = .ok (.ineg, 1) := by decide +kernel
theorem dX5_leanOn_36 : decode cX5_leanOn 36 = .ok (.ireturn, 1) := by decide +kernel
theorem dX5_marginOf_0 : decode cX5_marginOf 0 = .ok (.aload_n 0, 1) := by decide +kernel
theorem dX5_marginOf_1 : decode cX5_marginOf 1 = .ok (.getfield 42, 3) := by decide +kernel
theorem dX5_marginOf_4 : decode cX5_marginOf 4 = .ok (.getfield 96, 3) := by decide +kernel
theorem dX5_marginOf_7 : decode cX5_marginOf 7 = .ok (.iload_n 2, 1) := by decide +kernel
theorem dX5_marginOf_8 : decode cX5_marginOf 8 = .ok (.iaload, 1) := by decide +kernel
theorem dX5_marginOf_9 : decode cX5_marginOf 9 = .ok (.istore_n 3, 1) := by decide +kernel
theorem dX5_marginOf_10 : decode cX5_marginOf 10 = .ok (.aload_n 0, 1) := by decide +kernel
theorem dX5_marginOf_11 : decode cX5_marginOf 11 = .ok (.getfield 42, 3) := by decide +kernel
theorem dX5_marginOf_14 : decode cX5_marginOf 14 = .ok (.getfield 102, 3) := by decide +kernel
theorem dX5_marginOf_17 : decode cX5_marginOf 17 = .ok (.iload_n 2, 1) := by decide +kernel
theorem dX5_marginOf_18 : decode cX5_marginOf 18 = .ok (.iaload, 1) := by decide +kernel
theorem dX5_marginOf_19 : decode cX5_marginOf 19 = .ok (.istore 4, 2) := by decide +kernel
theorem dX5_marginOf_21 : decode cX5_marginOf 21 = .ok (.aload_n 0, 1) := by decide +kernel
theorem dX5_marginOf_22 : decode cX5_marginOf 22 = .ok (.getfield 42, 3) := by decide +kernel
theorem dX5_marginOf_25 : decode cX5_marginOf 25 = .ok (.getfield 111, 3) := by decide +kernel
theorem dX5_marginOf_28 : decode cX5_marginOf 28 = .ok (.iload_n 2, 1) := by decide +kernel
theorem dX5_marginOf_29 : decode cX5_marginOf 29 = .ok (.iaload, 1) := by decide +kernel
theorem dX5_marginOf_30 : decode cX5_marginOf 30 = .ok (.istore 5, 2) := by decide +kernel
theorem dX5_marginOf_32 : decode cX5_marginOf 32 = .ok (.iload_n 1, 1) := by decide +kernel
theorem dX5_marginOf_33 : decode cX5_marginOf 33 = .ok (.iconst 2, 1) := by decide +kernel
theorem dX5_marginOf_34 : decode cX5_marginOf 34 = .ok (.invokestatic 114, 3) := by decide +kernel
theorem dX5_marginOf_37 : decode cX5_marginOf 37 = .ok (.ifCond .ne 72, 3) := by decide +kernel
theorem dX5_marginOf_40 : decode cX5_marginOf 40 = .ok (.aload_n 0, 1) := by decide +kernel
theorem dX5_marginOf_41 : decode cX5_marginOf 41 = .ok (.iload_n 3, 1) := by decide +kernel
theorem dX5_marginOf_42 : decode cX5_marginOf 42 = .ok (.iload 5, 2) := by decide +kernel
theorem dX5_marginOf_44 : decode cX5_marginOf 44 = .ok (.invokevirtual 99, 3) := by decide +kernel
theorem dX5_marginOf_47 : decode cX5_marginOf 47 = .ok (.aload_n 0, 1) := by decide +kernel
theorem dX5_marginOf_48 : decode cX5_marginOf 48 = .ok (.iload 4, 2) := by decide +kernel
theorem dX5_marginOf_50 : decode cX5_marginOf 50 = .ok (.iload 5, 2) := by decide +kernel
theorem dX5_marginOf_52 : decode cX5_marginOf 52 = .ok (.invokevirtual 99, 3) := by decide +kernel
theorem dX5_marginOf_55 : decode cX5_marginOf 55 = .ok (.isub, 1) := by decide +kernel
theorem dX5_marginOf_56 : decode cX5_marginOf 56 = .ok (.istore 6, 2) := by decide +kernel
theorem dX5_marginOf_58 : decode cX5_marginOf 58 = .ok (.iload_n 1, 1) := by decide +kernel
theorem dX5_marginOf_59 : decode cX5_marginOf 59 = .ok (.iconst 1, 1) := by decide +kernel
theorem dX5_marginOf_60 : decode cX5_marginOf 60 = .ok (.invokestatic 114, 3) := by decide +kernel
theorem dX5_marginOf_63 : decode cX5_marginOf 63 = .ok (.ifCond .eq 30, 3) := by decide +kernel
theorem dX5_marginOf_66 : decode cX5_marginOf 66 = .ok (.iload 6, 2) := by decide +kernel
theorem dX5_marginOf_68 : decode cX5_marginOf 68 = .ok (.iconst 2, 1) := by decide +kernel
theorem dX5_marginOf_69 : decode cX5_marginOf 69 = .ok (.aload_n 0, 1) := by decide +kernel
theorem dX5_marginOf_70 : decode cX5_marginOf 70 = .ok (.getfield 12, 3) := by decide +kernel
theorem dX5_marginOf_73 : decode cX5_marginOf 73 = .ok (.getfield 67, 3) := by decide +kernel
theorem dX5_marginOf_76 : decode cX5_marginOf 76 = .ok (.iload_n 3, 1) := by decide +kernel
theorem dX5_marginOf_77 : decode cX5_marginOf 77 = .ok (.iaload, 1) := by decide +kernel
theorem dX5_marginOf_78 : decode cX5_marginOf 78 = .ok (.aload_n 0, 1) := by decide +kernel
theorem dX5_marginOf_79 : decode cX5_marginOf 79 = .ok (.getfield 12, 3) := by decide +kernel
theorem dX5_marginOf_82 : decode cX5_marginOf 82 = .ok (.getfield 67, 3) := by decide +kernel
theorem dX5_marginOf_85 : decode cX5_marginOf 85 = .ok (.iload 4, 2) := by decide +kernel
theorem dX5_marginOf_87 : decode cX5_marginOf 87 = .ok (.iaload, 1) := by decide +kernel
theorem dX5_marginOf_88 : decode cX5_marginOf 88 = .ok (.isub, 1) := by decide +kernel
theorem dX5_marginOf_89 : decode cX5_marginOf 89 = .ok (.imul, 1) := by decide +kernel
theorem dX5_marginOf_90 : decode cX5_marginOf 90 = .ok (.iadd, 1) := by decide +kernel
theorem dX5_marginOf_91 : decode cX5_marginOf 91 = .ok (.istore 6, 2) := by decide +kernel
theorem dX5_marginOf_93 : decode cX5_marginOf 93 = .ok (.iload_n 1, 1) := by decide +kernel
theorem dX5_marginOf_94 : decode cX5_marginOf 94 = .ok (.iconst 4, 1) := by decide +kernel
theorem dX5_marginOf_95 : decode cX5_marginOf 95 = .ok (.if_icmp .ne 11, 3) := by decide +kernel
theorem dX5_marginOf_98 : decode cX5_marginOf 98 = .ok (.iload 6, 2) := by decide +kernel
theorem dX5_marginOf_100 : decode cX5_marginOf 100 = .ok (.bipush 10, 2) := by decide +kernel
theorem dX5_marginOf_102 : decode cX5_marginOf 102 = .ok (.isub, 1) := by decide +kernel
theorem dX5_marginOf_103 : decode cX5_marginOf 103 = .ok (.goto 5, 3) := by decide +kernel
theorem dX5_marginOf_106 : decode cX5_marginOf 106 = .ok (.iload 6, 2) := by decide +kernel
theorem dX5_marginOf_108 : decode cX5_marginOf 108 = .ok (.ireturn, 1) := by decide +kernel
theorem dX5_marginOf_109 : decode cX5_marginOf 109 = .ok (.aload_n 0, 1) := by decide +kernel
theorem dX5_marginOf_110 : decode cX5_marginOf 110 = .ok (.getfield 42, 3) := by decide +kernel
theorem dX5_marginOf_113 : decode cX5_marginOf 113 = .ok (.getfield 118, 3) := by decide +kernel
theorem dX5_marginOf_116 : decode cX5_marginOf 116 = .ok (.iload_n 2, 1) := by decide +kernel
theorem dX5_marginOf_117 : decode cX5_marginOf 117 = .ok (.iaload, 1) := by decide +kernel
theorem dX5_marginOf_118 : decode cX5_marginOf 118 = .ok (.istore 6, 2) := by decide +kernel
theorem dX5_marginOf_120 : decode cX5_marginOf 120 = .ok (.aload_n 0, 1) := by decide +kernel
theorem dX5_marginOf_121 : decode cX5_marginOf 121 = .ok (.getfield 21, 3) := by decide +kernel
theorem dX5_marginOf_124 : decode cX5_marginOf 124 = .ok (.iload 6, 2) := by decide +kernel
theorem dX5_marginOf_126 : decode cX5_marginOf 126 = .ok (.iload 5, 2) := by decide +kernel
theorem dX5_marginOf_128 : decode cX5_marginOf 128 = .ok (.invokevirtual 121, 3) := by decide +kernel
theorem dX5_marginOf_131 : decode cX5_marginOf 131 = .ok (.istore 7, 2) := by decide +kernel
theorem dX5_marginOf_133 : decode cX5_marginOf 133 = .ok (.aload_n 0, 1) := by decide +kernel
theorem dX5_marginOf_134 : decode cX5_marginOf 134 = .ok (.getfield 21, 3) := by decide +kernel
theorem dX5_marginOf_137 : decode cX5_marginOf 137 = .ok (.iload 6, 2) := by decide +kernel
theorem dX5_marginOf_139 : decode cX5_marginOf 139 = .ok (.aload_n 0, 1) := by decide +kernel
theorem dX5_marginOf_140 : decode cX5_marginOf 140 = .ok (.iload_n 3, 1) := by decide +kernel
theorem dX5_marginOf_141 : decode cX5_marginOf 141 = .ok (.iload 7, 2) := by decide +kernel
theorem dX5_marginOf_143 : decode cX5_marginOf 143 = .ok (.invokevirtual 99, 3) := by decide +kernel
theorem dX5_marginOf_146 : decode cX5_marginOf 146 = .ok (.invokevirtual 124, 3) := by decide +kernel
theorem dX5_marginOf_149 : decode cX5_marginOf 149 = .ok (.aload_n 0, 1) := by decide +kernel
theorem dX5_marginOf_150 : decode cX5_marginOf 150 = .ok (.getfield 21, 3) := by decide +kernel
theorem dX5_marginOf_153 : decode cX5_marginOf 153 = .ok (.iload 6, 2) := by decide +kernel
theorem dX5_marginOf_155 : decode cX5_marginOf 155 = .ok (.aload_n 0, 1) := by decide +kernel
theorem dX5_marginOf_156 : decode cX5_marginOf 156 = .ok (.iload 4, 2) := by decide +kernel
theorem dX5_marginOf_158 : decode cX5_marginOf 158 = .ok (.iload 7, 2) := by decide +kernel
theorem dX5_marginOf_160 : decode cX5_marginOf 160 = .ok (.invokevirtual 99, 3) := by decide +kernel
theorem dX5_marginOf_163 : decode cX5_marginOf 163 = .ok (.invokevirtual 124, 3) := by decide +kernel
theorem dX5_marginOf_166 : decode cX5_marginOf 166 = .ok (.isub, 1) := by decide +kernel
theorem dX5_marginOf_167 : decode cX5_marginOf 167 = .ok (.istore 8, 2) := by decide +kernel
theorem dX5_marginOf_169 : decode cX5_marginOf 169 = .ok (.iload_n 1, 1) := by decide +kernel
theorem dX5_marginOf_170 : decode cX5_marginOf 170 = .ok (.iconst 5, 1) := by decide +kernel
theorem dX5_marginOf_171 : decode cX5_marginOf 171 = .ok (.if_icmp .ne 8, 3) := by decide +kernel
theorem dX5_marginOf_174 : decode cX5_marginOf 174 = .ok (.iload 8, 2) := by decide +kernel
theorem dX5_marginOf_176 : decode cX5_marginOf 176 = .ok (.iconst 2, 1) := by decide +kernel
theorem dX5_marginOf_177 : decode cX5_marginOf 177 = .ok (.isub, 1) := by decide +kernel
theorem dX5_marginOf_178 : decode cX5_marginOf 178 = .ok (.ireturn, 1) := by decide +kernel
theorem dX5_marginOf_179 : decode cX5_marginOf 179 = .ok (.iload 8, 2) := by decide +kernel
theorem dX5_marginOf_181 : decode cX5_marginOf 181 = .ok (.aload_n 0, 1) := by decide +kernel
theorem dX5_marginOf_182 : decode cX5_marginOf 182 = .ok (.iload_n 2, 1) := by decide +kernel
theorem dX5_marginOf_183 : decode cX5_marginOf 183 = .ok (.iload_n 3, 1) := by decide +kernel
theorem dX5_marginOf_184 : decode cX5_marginOf 184 = .ok (.invokevirtual 127, 3) := by decide +kernel
theorem dX5_marginOf_187 : decode cX5_marginOf 187 = .ok (.iadd, 1) := by decide +kernel
theorem dX5_marginOf_188 : decode cX5_marginOf 188 = .ok (.aload_n 0, 1) := by decide +kernel
theorem dX5_marginOf_189 : decode cX5_marginOf 189 = .ok (.iload_n 2, 1) := by decide +kernel
theorem dX5_marginOf_190 : decode cX5_marginOf 190 = .ok (.iload 4, 2) := by decide +kernel
theorem dX5_marginOf_192 : decode cX5_marginOf 192 = .ok (.invokevirtual 127, 3) := by decide +kernel
theorem dX5_marginOf_195 : decode cX5_marginOf 195 = .ok (.isub, 1) := by decide +kernel
theorem dX5_marginOf_196 : decode cX5_marginOf 196 = .ok (.ireturn, 1) := by decide +kernel
theorem dX5_bandOf_0 : decode cX5_bandOf 0 = .ok (.iload_n 1, 1) := by decide +kernel
theorem dX5_bandOf_1 : decode cX5_bandOf 1 = .ok (.tableswitch 73 2 5 #[31, 33, 71, 31], 31) := by decide +kernel
theorem dX5_bandOf_32 : decode cX5_bandOf 32 = .ok (.iconst 1, 1) := by decide +kernel
theorem dX5_bandOf_33 : decode cX5_bandOf 33 = .ok (.ireturn, 1) := by decide +kernel
theorem dX5_bandOf_34 : decode cX5_bandOf 34 = .ok (.aload_n 0, 1) := by decide +kernel
theorem dX5_bandOf_35 : decode cX5_bandOf 35 = .ok (.aload_n 0, 1) := by decide +kernel
theorem dX5_bandOf_36 : decode cX5_bandOf 36 = .ok (.getfield 42, 3) := by decide +kernel
theorem dX5_bandOf_39 : decode cX5_bandOf 39 = .ok (.getfield 96, 3) := by decide +kernel
theorem dX5_bandOf_42 : decode cX5_bandOf 42 = .ok (.iload_n 2, 1) := by decide +kernel
theorem dX5_bandOf_43 : decode cX5_bandOf 43 = .ok (.iaload, 1) := by decide +kernel
theorem dX5_bandOf_44 : decode cX5_bandOf 44 = .ok (.aload_n 0, 1) := by decide +kernel
theorem dX5_bandOf_45 : decode cX5_bandOf 45 = .ok (.getfield 42, 3) := by decide +kernel
theorem dX5_bandOf_48 : decode cX5_bandOf 48 = .ok (.getfield 111, 3) := by decide +kernel
theorem dX5_bandOf_51 : decode cX5_bandOf 51 = .ok (.iload_n 2, 1) := by decide +kernel
theorem dX5_bandOf_52 : decode cX5_bandOf 52 = .ok (.iaload, 1) := by decide +kernel
theorem dX5_bandOf_53 : decode cX5_bandOf 53 = .ok (.iconst 1, 1) := by decide +kernel
theorem dX5_bandOf_54 : decode cX5_bandOf 54 = .ok (.invokevirtual 130, 3) := by decide +kernel
theorem dX5_bandOf_57 : decode cX5_bandOf 57 = .ok (.istore_n 3, 1) := by decide +kernel
theorem dX5_bandOf_58 : decode cX5_bandOf 58 = .ok (.iconst 1, 1) := by decide +kernel
theorem dX5_bandOf_59 : decode cX5_bandOf 59 = .ok (.iconst 0, 1) := by decide +kernel
theorem dX5_bandOf_60 : decode cX5_bandOf 60 = .ok (.sipush 999, 3) := by decide +kernel
theorem dX5_bandOf_63 : decode cX5_bandOf 63 = .ok (.iload_n 3, 1) := by decide +kernel
theorem dX5_bandOf_64 : decode cX5_bandOf 64 = .ok (.invokestatic 133, 3) := by decide +kernel
theorem dX5_bandOf_67 : decode cX5_bandOf 67 = .ok (.invokestatic 138, 3) := by decide +kernel
theorem dX5_bandOf_70 : decode cX5_bandOf 70 = .ok (.iadd, 1) := by decide +kernel
theorem dX5_bandOf_71 : decode cX5_bandOf 71 = .ok (.ireturn, 1) := by decide +kernel
theorem dX5_bandOf_72 : decode cX5_bandOf 72 = .ok (.iconst 3, 1) := by decide +kernel
theorem dX5_bandOf_73 : decode cX5_bandOf 73 = .ok (.ireturn, 1) := by decide +kernel
theorem dX5_bandOf_74 : decode cX5_bandOf 74 = .ok (.iconst 0, 1) := by decide +kernel
theorem dX5_bandOf_75 : decode cX5_bandOf 75 = .ok (.ireturn, 1) := by decide +kernel
theorem dX5_isOffside_0 : decode cX5_isOffside 0 = .ok (.aload_n 0, 1) := by decide +kernel
theorem dX5_isOffside_1 : decode cX5_isOffside 1 = .ok (.iload_n 1, 1) := by decide +kernel
theorem dX5_isOffside_2 : decode cX5_isOffside 2 = .ok (.iload_n 2, 1) := by decide +kernel
theorem dX5_isOffside_3 : decode cX5_isOffside 3 = .ok (.invokevirtual 141, 3) := by decide +kernel
theorem dX5_isOffside_6 : decode cX5_isOffside 6 = .ok (.aload_n 0, 1) := by decide +kernel
theorem dX5_isOffside_7 : decode cX5_isOffside 7 = .ok (.iload_n 1, 1) := by decide +kernel
theorem dX5_isOffside_8 : decode cX5_isOffside 8 = .ok (.iload_n 2, 1) := by decide +kernel
theorem dX5_isOffside_9 : decode cX5_isOffside 9 = .ok (.invokevirtual 144, 3) := by decide +kernel
theorem dX5_isOffside_12 : decode cX5_isOffside 12 = .ok (.if_icmp .le 7, 3) := by decide +kernel
theorem dX5_isOffside_15 : decode cX5_isOffside 15 = .ok (.iconst 1, 1) := by decide +kernel
theorem dX5_isOffside_16 : decode cX5_isOffside 16 = .ok (.goto 4, 3) := by decide +kernel
theorem dX5_isOffside_19 : decode cX5_isOffside 19 = .ok (.iconst 0, 1) := by decide +kernel
theorem dX5_isOffside_20 : decode cX5_isOffside 20 = .ok (.istore_n 3, 1) := by decide +kernel
theorem dX5_isOffside_21 : decode cX5_isOffside 21 = .ok (.iload_n 3, 1) := by decide +kernel
theorem dX5_isOffside_22 : decode cX5_isOffside 22 = .ok (.ifCond .eq 33, 3) := by decide +kernel
theorem dX5_isOffside_25 : decode cX5_isOffside 25 = .ok (.aload_n 0, 1) := by decide +kernel
theorem dX5_isOffside_26 : decode cX5_isOffside 26 = .ok (.aload_n 0, 1) := by decide +kernel
theorem dX5_isOffside_27 : decode cX5_isOffside 27 = .ok (.getfield 42, 3) := by decide +kernel
theorem dX5_isOffside_30 : decode cX5_isOffside 30 = .ok (.getfield 96, 3) := by decide +kernel
theorem dX5_isOffside_33 : decode cX5_isOffside 33 = .ok (.iload_n 2, 1) := by decide +kernel
theorem dX5_isOffside_34 : decode cX5_isOffside 34 = .ok (.iaload, 1) := by decide +kernel
theorem dX5_isOffside_35 : decode cX5_isOffside 35 = .ok (.aload_n 0, 1) := by decide +kernel
theorem dX5_isOffside_36 : decode cX5_isOffside 36 = .ok (.getfield 42, 3) := by decide +kernel
theorem dX5_isOffside_39 : decode cX5_isOffside 39 = .ok (.getfield 111, 3) := by decide +kernel
theorem dX5_isOffside_42 : decode cX5_isOffside 42 = .ok (.iload_n 2, 1) := by decide +kernel
theorem dX5_isOffside_43 : decode cX5_isOffside 43 = .ok (.iaload, 1) := by decide +kernel
theorem dX5_isOffside_44 : decode cX5_isOffside 44 = .ok (.iconst 2, 1) := by decide +kernel
theorem dX5_isOffside_45 : decode cX5_isOffside 45 = .ok (.invokevirtual 130, 3) := by decide +kernel
theorem dX5_isOffside_48 : decode cX5_isOffside 48 = .ok (.ifCond .eq 7, 3) := by decide +kernel
theorem dX5_isOffside_51 : decode cX5_isOffside 51 = .ok (.iconst 1, 1) := by decide +kernel
theorem dX5_isOffside_52 : decode cX5_isOffside 52 = .ok (.goto 4, 3) := by decide +kernel
theorem dX5_isOffside_55 : decode cX5_isOffside 55 = .ok (.iconst 0, 1) := by decide +kernel
theorem dX5_isOffside_56 : decode cX5_isOffside 56 = .ok (.ireturn, 1) := by decide +kernel
theorem dX5_offsideAmong_0 : decode cX5_offsideAmong 0 = .ok (.iconst 0, 1) := by decide +kernel
theorem dX5_offsideAmong_1 : decode cX5_offsideAmong 1 = .ok (.istore_n 2, 1) := by decide +kernel
theorem dX5_offsideAmong_2 : decode cX5_offsideAmong 2 = .ok (.iconst 0, 1) := by decide +kernel
theorem dX5_offsideAmong_3 : decode cX5_offsideAmong 3 = .ok (.istore_n 3, 1) := by decide +kernel
theorem dX5_offsideAmong_4 : decode cX5_offsideAmong 4 = .ok (.iload_n 3, 1) := by decide +kernel
theorem dX5_offsideAmong_5 : decode cX5_offsideAmong 5 = .ok (.aload_n 0, 1) := by decide +kernel
theorem dX5_offsideAmong_6 : decode cX5_offsideAmong 6 = .ok (.getfield 42, 3) := by decide +kernel
theorem dX5_offsideAmong_9 : decode cX5_offsideAmong 9 = .ok (.getfield 147, 3) := by decide +kernel
theorem dX5_offsideAmong_12 : decode cX5_offsideAmong 12 = .ok (.if_icmp .ge 41, 3) := by decide +kernel
theorem dX5_offsideAmong_15 : decode cX5_offsideAmong 15 = .ok (.iload_n 1, 1) := by decide +kernel
theorem dX5_offsideAmong_16 : decode cX5_offsideAmong 16 = .ok (.iload_n 3, 1) := by decide +kernel
theorem dX5_offsideAmong_17 : decode cX5_offsideAmong 17 = .ok (.ishr, 1) := by decide +kernel
theorem dX5_offsideAmong_18 : decode cX5_offsideAmong 18 = .ok (.iconst 1, 1) := by decide +kernel
theorem dX5_offsideAmong_19 : decode cX5_offsideAmong 19 = .ok (.iand, 1) := by decide +kernel
theorem dX5_offsideAmong_20 : decode cX5_offsideAmong 20 = .ok (.iconst 1, 1) := by decide +kernel
theorem dX5_offsideAmong_21 : decode cX5_offsideAmong 21 = .ok (.if_icmp .ne 26, 3) := by decide +kernel
theorem dX5_offsideAmong_24 : decode cX5_offsideAmong 24 = .ok (.aload_n 0, 1) := by decide +kernel
theorem dX5_offsideAmong_25 : decode cX5_offsideAmong 25 = .ok (.aload_n 0, 1) := by decide +kernel
theorem dX5_offsideAmong_26 : decode cX5_offsideAmong 26 = .ok (.getfield 42, 3) := by decide +kernel
theorem dX5_offsideAmong_29 : decode cX5_offsideAmong 29 = .ok (.getfield 150, 3) := by decide +kernel
theorem dX5_offsideAmong_32 : decode cX5_offsideAmong 32 = .ok (.iload_n 3, 1) := by decide +kernel
theorem dX5_offsideAmong_33 : decode cX5_offsideAmong 33 = .ok (.iaload, 1) := by decide +kernel
theorem dX5_offsideAmong_34 : decode cX5_offsideAmong 34 = .ok (.iload_n 3, 1) := by decide +kernel
theorem dX5_offsideAmong_35 : decode cX5_offsideAmong 35 = .ok (.invokevirtual 153, 3) := by decide +kernel
theorem dX5_offsideAmong_38 : decode cX5_offsideAmong 38 = .ok (.ifCond .eq 9, 3) := by decide +kernel
theorem dX5_offsideAmong_41 : decode cX5_offsideAmong 41 = .ok (.iload_n 2, 1) := by decide +kernel
theorem dX5_offsideAmong_42 : decode cX5_offsideAmong 42 = .ok (.iconst 1, 1) := by decide +kernel
theorem dX5_offsideAmong_43 : decode cX5_offsideAmong 43 = .ok (.iload_n 3, 1) := by decide +kernel
theorem dX5_offsideAmong_44 : decode cX5_offsideAmong 44 = .ok (.ishl, 1) := by decide +kernel
theorem dX5_offsideAmong_45 : decode cX5_offsideAmong 45 = .ok (.ior, 1) := by decide +kernel
theorem dX5_offsideAmong_46 : decode cX5_offsideAmong 46 = .ok (.istore_n 2, 1) := by decide +kernel
theorem dX5_offsideAmong_47 : decode cX5_offsideAmong 47 = .ok (.iinc 3 1, 3) := by decide +kernel
theorem dX5_offsideAmong_50 : decode cX5_offsideAmong 50 = .ok (.goto (-46), 3) := by decide +kernel
theorem dX5_offsideAmong_53 : decode cX5_offsideAmong 53 = .ok (.iload_n 2, 1) := by decide +kernel
theorem dX5_offsideAmong_54 : decode cX5_offsideAmong 54 = .ok (.ireturn, 1) := by decide +kernel
theorem dX5_weigh_0 : decode cX5_weigh 0 = .ok (.aload_n 0, 1) := by decide +kernel
theorem dX5_weigh_1 : decode cX5_weigh 1 = .ok (.iconst 0, 1) := by decide +kernel
theorem dX5_weigh_2 : decode cX5_weigh 2 = .ok (.putfield 156, 3) := by decide +kernel
theorem dX5_weigh_5 : decode cX5_weigh 5 = .ok (.aload_n 0, 1) := by decide +kernel
theorem dX5_weigh_6 : decode cX5_weigh 6 = .ok (.iconst 0, 1) := by decide +kernel
theorem dX5_weigh_7 : decode cX5_weigh 7 = .ok (.putfield 159, 3) := by decide +kernel
theorem dX5_weigh_10 : decode cX5_weigh 10 = .ok (.iconst 0, 1) := by decide +kernel
theorem dX5_weigh_11 : decode cX5_weigh 11 = .ok (.istore_n 2, 1) := by decide +kernel
theorem dX5_weigh_12 : decode cX5_weigh 12 = .ok (.iload_n 2, 1) := by decide +kernel
theorem dX5_weigh_13 : decode cX5_weigh 13 = .ok (.aload_n 0, 1) := by decide +kernel
theorem dX5_weigh_14 : decode cX5_weigh 14 = .ok (.getfield 42, 3) := by decide +kernel
theorem dX5_weigh_17 : decode cX5_weigh 17 = .ok (.getfield 147, 3) := by decide +kernel
theorem dX5_weigh_20 : decode cX5_weigh 20 = .ok (.if_icmp .ge 87, 3) := by decide +kernel
theorem dX5_weigh_23 : decode cX5_weigh 23 = .ok (.iload_n 1, 1) := by decide +kernel
theorem dX5_weigh_24 : decode cX5_weigh 24 = .ok (.iload_n 2, 1) := by decide +kernel
theorem dX5_weigh_25 : decode cX5_weigh 25 = .ok (.ishr, 1) := by decide +kernel
theorem dX5_weigh_26 : decode cX5_weigh 26 = .ok (.iconst 1, 1) := by decide +kernel
theorem dX5_weigh_27 : decode cX5_weigh 27 = .ok (.iand, 1) := by decide +kernel
theorem dX5_weigh_28 : decode cX5_weigh 28 = .ok (.iconst 1, 1) := by decide +kernel
theorem dX5_weigh_29 : decode cX5_weigh 29 = .ok (.if_icmp .ne 72, 3) := by decide +kernel
theorem dX5_weigh_32 : decode cX5_weigh 32 = .ok (.aload_n 0, 1) := by decide +kernel
theorem dX5_weigh_33 : decode cX5_weigh 33 = .ok (.aload_n 0, 1) := by decide +kernel
theorem dX5_weigh_34 : decode cX5_weigh 34 = .ok (.getfield 42, 3) := by decide +kernel
theorem dX5_weigh_37 : decode cX5_weigh 37 = .ok (.getfield 150, 3) := by decide +kernel
theorem dX5_weigh_40 : decode cX5_weigh 40 = .ok (.iload_n 2, 1) := by decide +kernel
theorem dX5_weigh_41 : decode cX5_weigh 41 = .ok (.iaload, 1) := by decide +kernel
theorem dX5_weigh_42 : decode cX5_weigh 42 = .ok (.iload_n 2, 1) := by decide +kernel
theorem dX5_weigh_43 : decode cX5_weigh 43 = .ok (.invokevirtual 153, 3) := by decide +kernel
theorem dX5_weigh_46 : decode cX5_weigh 46 = .ok (.istore_n 3, 1) := by decide +kernel
theorem dX5_weigh_47 : decode cX5_weigh 47 = .ok (.aload_n 0, 1) := by decide +kernel
theorem dX5_weigh_48 : decode cX5_weigh 48 = .ok (.iconst 0, 1) := by decide +kernel
theorem dX5_weigh_49 : decode cX5_weigh 49 = .ok (.iload_n 2, 1) := by decide +kernel
theorem dX5_weigh_50 : decode cX5_weigh 50 = .ok (.invokevirtual 153, 3) := by decide +kernel
theorem dX5_weigh_53 : decode cX5_weigh 53 = .ok (.istore 4, 2) := by decide +kernel
theorem dX5_weigh_55 : decode cX5_weigh 55 = .ok (.aload_n 0, 1) := by decide +kernel
theorem dX5_weigh_56 : decode cX5_weigh 56 = .ok (.dup, 1) := by decide +kernel
theorem dX5_weigh_57 : decode cX5_weigh 57 = .ok (.getfield 156, 3) := by decide +kernel
theorem dX5_weigh_60 : decode cX5_weigh 60 = .ok (.iload 4, 2) := by decide +kernel
theorem dX5_weigh_62 : decode cX5_weigh 62 = .ok (.ifCond .eq 11, 3) := by decide +kernel
theorem dX5_weigh_65 : decode cX5_weigh 65 = .ok (.iload_n 3, 1) := by decide +kernel
theorem dX5_weigh_66 : decode cX5_weigh 66 = .ok (.ifCond .ne 7, 3) := by decide +kernel
theorem dX5_weigh_69 : decode cX5_weigh 69 = .ok (.iconst 1, 1) := by decide +kernel
theorem dX5_weigh_70 : decode cX5_weigh 70 = .ok (.goto 4, 3) := by decide +kernel
theorem dX5_weigh_73 : decode cX5_weigh 73 = .ok (.iconst 0, 1) := by decide +kernel
theorem dX5_weigh_74 : decode cX5_weigh 74 = .ok (.iadd, 1) := by decide +kernel
theorem dX5_weigh_75 : decode cX5_weigh 75 = .ok (.putfield 156, 3) := by decide +kernel
theorem dX5_weigh_78 : decode cX5_weigh 78 = .ok (.aload_n 0, 1) := by decide +kernel
theorem dX5_weigh_79 : decode cX5_weigh 79 = .ok (.dup, 1) := by decide +kernel
theorem dX5_weigh_80 : decode cX5_weigh 80 = .ok (.getfield 159, 3) := by decide +kernel
theorem dX5_weigh_83 : decode cX5_weigh 83 = .ok (.iload_n 3, 1) := by decide +kernel
theorem dX5_weigh_84 : decode cX5_weigh 84 = .ok (.ifCond .eq 12, 3) := by decide +kernel
theorem dX5_weigh_87 : decode cX5_weigh 87 = .ok (.iload 4, 2) := by decide +kernel
theorem dX5_weigh_89 : decode cX5_weigh 89 = .ok (.ifCond .ne 7, 3) := by decide +kernel
theorem dX5_weigh_92 : decode cX5_weigh 92 = .ok (.iconst 1, 1) := by decide +kernel
theorem dX5_weigh_93 : decode cX5_weigh 93 = .ok (.goto 4, 3) := by decide +kernel
theorem dX5_weigh_96 : decode cX5_weigh 96 = .ok (.iconst 0, 1) := by decide +kernel
theorem dX5_weigh_97 : decode cX5_weigh 97 = .ok (.iadd, 1) := by decide +kernel
theorem dX5_weigh_98 : decode cX5_weigh 98 = .ok (.putfield 159, 3) := by decide +kernel
theorem dX5_weigh_101 : decode cX5_weigh 101 = .ok (.iinc 2 1, 3) := by decide +kernel
theorem dX5_weigh_104 : decode cX5_weigh 104 = .ok (.goto (-92), 3) := by decide +kernel
theorem dX5_weigh_107 : decode cX5_weigh 107 = .ok (.return_, 1) := by decide +kernel
theorem dX5_spreadOf_0 : decode cX5_spreadOf 0 = .ok (.aload_n 0, 1) := by decide +kernel
theorem dX5_spreadOf_1 : decode cX5_spreadOf 1 = .ok (.getfield 42, 3) := by decide +kernel
theorem dX5_spreadOf_4 : decode cX5_spreadOf 4 = .ok (.getfield 150, 3) := by decide +kernel
theorem dX5_spreadOf_7 : decode cX5_spreadOf 7 = .ok (.iload_n 1, 1) := by decide +kernel
theorem dX5_spreadOf_8 : decode cX5_spreadOf 8 = .ok (.iaload, 1) := by decide +kernel
theorem dX5_spreadOf_9 : decode cX5_spreadOf 9 = .ok (.istore_n 2, 1) := by decide +kernel
theorem dX5_spreadOf_10 : decode cX5_spreadOf 10 = .ok (.iload_n 2, 1) := by decide +kernel
theorem dX5_spreadOf_11 : decode cX5_spreadOf 11 = .ok (.iconst 2, 1) := by decide +kernel
theorem dX5_spreadOf_12 : decode cX5_spreadOf 12 = .ok (.invokestatic 114, 3) := by decide +kernel
theorem dX5_spreadOf_15 : decode cX5_spreadOf 15 = .ok (.ifCond .eq 28, 3) := by decide +kernel
theorem dX5_spreadOf_18 : decode cX5_spreadOf 18 = .ok (.iload_n 2, 1) := by decide +kernel
theorem dX5_spreadOf_19 : decode cX5_spreadOf 19 = .ok (.iconst 5, 1) := by decide +kernel
theorem dX5_spreadOf_20 : decode cX5_spreadOf 20 = .ok (.if_icmp .eq 23, 3) := by decide +kernel
theorem dX5_spreadOf_23 : decode cX5_spreadOf 23 = .ok (.aload_n 0, 1) := by decide +kernel
theorem dX5_spreadOf_24 : decode cX5_spreadOf 24 = .ok (.getfield 28, 3) := by decide +kernel
theorem dX5_spreadOf_27 : decode cX5_spreadOf 27 = .ok (.getfield 162, 3) := by decide +kernel
theorem dX5_spreadOf_30 : decode cX5_spreadOf 30 = .ok (.aload_n 0, 1) := by decide +kernel
theorem dX5_spreadOf_31 : decode cX5_spreadOf 31 = .ok (.getfield 42, 3) := by decide +kernel
theorem dX5_spreadOf_34 : decode cX5_spreadOf 34 = .ok (.getfield 108, 3) := by decide +kernel
theorem dX5_spreadOf_37 : decode cX5_spreadOf 37 = .ok (.iload_n 1, 1) := by decide +kernel
theorem dX5_spreadOf_38 : decode cX5_spreadOf 38 = .ok (.iaload, 1) := by decide +kernel
theorem dX5_spreadOf_39 : decode cX5_spreadOf 39 = .ok (.iaload, 1) := by decide +kernel
theorem dX5_spreadOf_40 : decode cX5_spreadOf 40 = .ok (.goto 4, 3) := by decide +kernel
theorem dX5_spreadOf_43 : decode cX5_spreadOf 43 = .ok (.iconst 0, 1) := by decide +kernel
theorem dX5_spreadOf_44 : decode cX5_spreadOf 44 = .ok (.ireturn, 1) := by decide +kernel
theorem dX5_pairsOf_0 : decode cX5_pairsOf 0 = .ok (.iconst 2, 1) := by decide +kernel
theorem dX5_pairsOf_1 : decode cX5_pairsOf 1 = .ok (.aload_n 0, 1) := by decide +kernel
theorem dX5_pairsOf_2 : decode cX5_pairsOf 2 = .ok (.iload_n 1, 1) := by decide +kernel
theorem dX5_pairsOf_3 : decode cX5_pairsOf 3 = .ok (.invokevirtual 165, 3) := by decide +kernel
theorem dX5_pairsOf_6 : decode cX5_pairsOf 6 = .ok (.imul, 1) := by decide +kernel
theorem dX5_pairsOf_7 : decode cX5_pairsOf 7 = .ok (.iconst 1, 1) := by decide +kernel
theorem dX5_pairsOf_8 : decode cX5_pairsOf 8 = .ok (.iadd, 1) := by decide +kernel
theorem dX5_pairsOf_9 : decode cX5_pairsOf 9 = .ok (.istore_n 2, 1) := by decide +kernel
theorem dX5_pairsOf_10 : decode cX5_pairsOf 10 = .ok (.iload_n 2, 1) := by decide +kernel
theorem dX5_pairsOf_11 : decode cX5_pairsOf 11 = .ok (.iload_n 2, 1) := by decide +kernel
theorem dX5_pairsOf_12 : decode cX5_pairsOf 12 = .ok (.imul, 1) := by decide +kernel
theorem dX5_pairsOf_13 : decode cX5_pairsOf 13 = .ok (.ireturn, 1) := by decide +kernel
theorem dX5_waysOf_0 : decode cX5_waysOf 0 = .ok (.aload_n 0, 1) := by decide +kernel
theorem dX5_waysOf_1 : decode cX5_waysOf 1 = .ok (.getfield 42, 3) := by decide +kernel
theorem dX5_waysOf_4 : decode cX5_waysOf 4 = .ok (.getfield 150, 3) := by decide +kernel
theorem dX5_waysOf_7 : decode cX5_waysOf 7 = .ok (.iload_n 1, 1) := by decide +kernel
theorem dX5_waysOf_8 : decode cX5_waysOf 8 = .ok (.iaload, 1) := by decide +kernel
theorem dX5_waysOf_9 : decode cX5_waysOf 9 = .ok (.istore_n 2, 1) := by decide +kernel
theorem dX5_waysOf_10 : decode cX5_waysOf 10 = .ok (.aload_n 0, 1) := by decide +kernel
theorem dX5_waysOf_11 : decode cX5_waysOf 11 = .ok (.iload_n 2, 1) := by decide +kernel
theorem dX5_waysOf_12 : decode cX5_waysOf 12 = .ok (.iload_n 1, 1) := by decide +kernel
theorem dX5_waysOf_13 : decode cX5_waysOf 13 = .ok (.invokevirtual 141, 3) := by decide +kernel
theorem dX5_waysOf_16 : decode cX5_waysOf 16 = .ok (.aload_n 0, 1) := by decide +kernel
theorem dX5_waysOf_17 : decode cX5_waysOf 17 = .ok (.iload_n 2, 1) := by decide +kernel
theorem dX5_waysOf_18 : decode cX5_waysOf 18 = .ok (.iload_n 1, 1) := by decide +kernel
theorem dX5_waysOf_19 : decode cX5_waysOf 19 = .ok (.invokevirtual 144, 3) := by decide +kernel
theorem dX5_waysOf_22 : decode cX5_waysOf 22 = .ok (.isub, 1) := by decide +kernel
theorem dX5_waysOf_23 : decode cX5_waysOf 23 = .ok (.istore_n 3, 1) := by decide +kernel
theorem dX5_waysOf_24 : decode cX5_waysOf 24 = .ok (.aload_n 0, 1) := by decide +kernel
theorem dX5_waysOf_25 : decode cX5_waysOf 25 = .ok (.iload_n 1, 1) := by decide +kernel
theorem dX5_waysOf_26 : decode cX5_waysOf 26 = .ok (.invokevirtual 165, 3) := by decide +kernel
theorem dX5_waysOf_29 : decode cX5_waysOf 29 = .ok (.istore 4, 2) := by decide +kernel
theorem dX5_waysOf_31 : decode cX5_waysOf 31 = .ok (.iconst 0, 1) := by decide +kernel
theorem dX5_waysOf_32 : decode cX5_waysOf 32 = .ok (.istore 5, 2) := by decide +kernel
theorem dX5_waysOf_34 : decode cX5_waysOf 34 = .ok (.iload 4, 2) := by decide +kernel
theorem dX5_waysOf_36 : decode cX5_waysOf 36 = .ok (.ineg, 1) := by decide +kernel
theorem dX5_waysOf_37 : decode cX5_waysOf 37 = .ok (.istore 6, 2) := by decide +kernel
theorem dX5_waysOf_39 : decode cX5_waysOf 39 = .ok (.iload 6, 2) := by decide +kernel
theorem dX5_waysOf_41 : decode cX5_waysOf 41 = .ok (.iload 4, 2) := by decide +kernel
theorem dX5_waysOf_43 : decode cX5_waysOf 43 = .ok (.if_icmp .gt 47, 3) := by decide +kernel
theorem dX5_waysOf_46 : decode cX5_waysOf 46 = .ok (.iload 4, 2) := by decide +kernel
theorem dX5_waysOf_48 : decode cX5_waysOf 48 = .ok (.ineg, 1) := by decide +kernel
theorem dX5_waysOf_49 : decode cX5_waysOf 49 = .ok (.istore 7, 2) := by decide +kernel
theorem dX5_waysOf_51 : decode cX5_waysOf 51 = .ok (.iload 7, 2) := by decide +kernel
theorem dX5_waysOf_53 : decode cX5_waysOf 53 = .ok (.iload 4, 2) := by decide +kernel
theorem dX5_waysOf_55 : decode cX5_waysOf 55 = .ok (.if_icmp .gt 29, 3) := by decide +kernel
theorem dX5_waysOf_58 : decode cX5_waysOf 58 = .ok (.iload 5, 2) := by decide +kernel
theorem dX5_waysOf_60 : decode cX5_waysOf 60 = .ok (.iload_n 3, 1) := by decide +kernel
theorem dX5_waysOf_61 : decode cX5_waysOf 61 = .ok (.iload 6, 2) := by decide +kernel
theorem dX5_waysOf_63 : decode cX5_waysOf 63 = .ok (.iadd, 1) := by decide +kernel
theorem dX5_waysOf_64 : decode cX5_waysOf 64 = .ok (.iload 7, 2) := by decide +kernel
theorem dX5_waysOf_66 : decode cX5_waysOf 66 = .ok (.isub, 1) := by decide +kernel
theorem dX5_waysOf_67 : decode cX5_waysOf 67 = .ok (.ifCond .le 7, 3) := by decide +kernel
theorem dX5_waysOf_70 : decode cX5_waysOf 70 = .ok (.iconst 1, 1) := by decide +kernel
theorem dX5_waysOf_71 : decode cX5_waysOf 71 = .ok (.goto 4, 3) := by decide +kernel
theorem dX5_waysOf_74 : decode cX5_waysOf 74 = .ok (.iconst 0, 1) := by decide +kernel
theorem dX5_waysOf_75 : decode cX5_waysOf 75 = .ok (.iadd, 1) := by decide +kernel
theorem dX5_waysOf_76 : decode cX5_waysOf 76 = .ok (.istore 5, 2) := by decide +kernel
theorem dX5_waysOf_78 : decode cX5_waysOf 78 = .ok (.iinc 7 1, 3) := by decide +kernel
theorem dX5_waysOf_81 : decode cX5_waysOf 81 = .ok (.goto (-30), 3) := by decide +kernel
theorem dX5_waysOf_84 : decode cX5_waysOf 84 = .ok (.iinc 6 1, 3) := by decide +kernel
theorem dX5_waysOf_87 : decode cX5_waysOf 87 = .ok (.goto (-48), 3) := by decide +kernel
theorem dX5_waysOf_90 : decode cX5_waysOf 90 = .ok (.iload 5, 2) := by decide +kernel
theorem dX5_waysOf_92 : decode cX5_waysOf 92 = .ok (.ireturn, 1) := by decide +kernel
theorem dX5_frameErrorOf_0 : decode cX5_frameErrorOf 0 = .ok (.aload_n 0, 1) := by decide +kernel
theorem dX5_frameErrorOf_1 : decode cX5_frameErrorOf 1 = .ok (.getfield 42, 3) := by decide +kernel
theorem dX5_frameErrorOf_4 : decode cX5_frameErrorOf 4 = .ok (.getfield 111, 3) := by decide +kernel
theorem dX5_frameErrorOf_7 : decode cX5_frameErrorOf 7 = .ok (.iload_n 1, 1) := by decide +kernel
theorem dX5_frameErrorOf_8 : decode cX5_frameErrorOf 8 = .ok (.iaload, 1) := by decide +kernel
theorem dX5_frameErrorOf_9 : decode cX5_frameErrorOf 9 = .ok (.istore_n 2, 1) := by decide +kernel
theorem dX5_frameErrorOf_10 : decode cX5_frameErrorOf 10 = .ok (.aload_n 0, 1) := by decide +kernel
theorem dX5_frameErrorOf_11 : decode cX5_frameErrorOf 11 = .ok (.getfield 21, 3) := by decide +kernel
theorem dX5_frameErrorOf_14 : decode cX5_frameErrorOf 14 = .ok (.aload_n 0, 1) := by decide +kernel
theorem dX5_frameErrorOf_15 : decode cX5_frameErrorOf 15 = .ok (.getfield 42, 3) := by decide +kernel
theorem dX5_frameErrorOf_18 : decode cX5_frameErrorOf 18 = .ok (.getfield 118, 3) := by decide +kernel
theorem dX5_frameErrorOf_21 : decode cX5_frameErrorOf 21 = .ok (.iload_n 1, 1) := by decide +kernel
theorem dX5_frameErrorOf_22 : decode cX5_frameErrorOf 22 = .ok (.iaload, 1) := by decide +kernel
theorem dX5_frameErrorOf_23 : decode cX5_frameErrorOf 23 = .ok (.iload_n 2, 1) := by decide +kernel
theorem dX5_frameErrorOf_24 : decode cX5_frameErrorOf 24 = .ok (.invokevirtual 121, 3) := by decide +kernel
theorem dX5_frameErrorOf_27 : decode cX5_frameErrorOf 27 = .ok (.istore_n 3, 1) := by decide +kernel
theorem dX5_frameErrorOf_28 : decode cX5_frameErrorOf 28 = .ok (.aload_n 0, 1) := by decide +kernel
theorem dX5_frameErrorOf_29 : decode cX5_frameErrorOf 29 = .ok (.iload_n 1, 1) := by decide +kernel
theorem dX5_frameErrorOf_30 : decode cX5_frameErrorOf 30 = .ok (.iload_n 3, 1) := by decide +kernel
theorem dX5_frameErrorOf_31 : decode cX5_frameErrorOf 31 = .ok (.invokevirtual 168, 3) := by decide +kernel
theorem dX5_frameErrorOf_34 : decode cX5_frameErrorOf 34 = .ok (.aload_n 0, 1) := by decide +kernel
theorem dX5_frameErrorOf_35 : decode cX5_frameErrorOf 35 = .ok (.iload_n 1, 1) := by decide +kernel
theorem dX5_frameErrorOf_36 : decode cX5_frameErrorOf 36 = .ok (.iload_n 2, 1) := by decide +kernel
theorem dX5_frameErrorOf_37 : decode cX5_frameErrorOf 37 = .ok (.invokevirtual 168, 3) := by decide +kernel
theorem dX5_frameErrorOf_40 : decode cX5_frameErrorOf 40 = .ok (.isub, 1) := by decide +kernel
theorem dX5_frameErrorOf_41 : decode cX5_frameErrorOf 41 = .ok (.ireturn, 1) := by decide +kernel
theorem dX5_turnOf_0 : decode cX5_turnOf 0 = .ok (.aload_n 0, 1) := by decide +kernel
theorem dX5_turnOf_1 : decode cX5_turnOf 1 = .ok (.getfield 42, 3) := by decide +kernel
theorem dX5_turnOf_4 : decode cX5_turnOf 4 = .ok (.getfield 150, 3) := by decide +kernel
theorem dX5_turnOf_7 : decode cX5_turnOf 7 = .ok (.iload_n 1, 1) := by decide +kernel
theorem dX5_turnOf_8 : decode cX5_turnOf 8 = .ok (.iaload, 1) := by decide +kernel
theorem dX5_turnOf_9 : decode cX5_turnOf 9 = .ok (.istore_n 2, 1) := by decide +kernel
theorem dX5_turnOf_10 : decode cX5_turnOf 10 = .ok (.aload_n 0, 1) := by decide +kernel
theorem dX5_turnOf_11 : decode cX5_turnOf 11 = .ok (.getfield 35, 3) := by decide +kernel
theorem dX5_turnOf_14 : decode cX5_turnOf 14 = .ok (.iconst 0, 1) := by decide +kernel
theorem dX5_turnOf_15 : decode cX5_turnOf 15 = .ok (.invokevirtual 171, 3) := by decide +kernel
theorem dX5_turnOf_18 : decode cX5_turnOf 18 = .ok (.istore_n 3, 1) := by decide +kernel
theorem dX5_turnOf_19 : decode cX5_turnOf 19 = .ok (.iload_n 2, 1) := by decide +kernel
theorem dX5_turnOf_20 : decode cX5_turnOf 20 = .ok (.iconst 3, 1) := by decide +kernel
theorem dX5_turnOf_21 : decode cX5_turnOf 21 = .ok (.if_icmp .ne 18, 3) := by decide +kernel
theorem dX5_turnOf_24 : decode cX5_turnOf 24 = .ok (.aload_n 0, 1) := by decide +kernel
theorem dX5_turnOf_25 : decode cX5_turnOf 25 = .ok (.getfield 35, 3) := by decide +kernel
theorem dX5_turnOf_28 : decode cX5_turnOf 28 = .ok (.iconst 1, 1) := by decide +kernel
theorem dX5_turnOf_29 : decode cX5_turnOf 29 = .ok (.invokevirtual 171, 3) := by decide +kernel
theorem dX5_turnOf_32 : decode cX5_turnOf 32 = .ok (.ifCond .eq 7, 3) := by decide +kernel
theorem dX5_turnOf_35 : decode cX5_turnOf 35 = .ok (.iconst 1, 1) := by decide +kernel
theorem dX5_turnOf_36 : decode cX5_turnOf 36 = .ok (.goto 4, 3) := by decide +kernel
theorem dX5_turnOf_39 : decode cX5_turnOf 39 = .ok (.iconst 0, 1) := by decide +kernel
theorem dX5_turnOf_40 : decode cX5_turnOf 40 = .ok (.istore 4, 2) := by decide +kernel
theorem dX5_turnOf_42 : decode cX5_turnOf 42 = .ok (.iload_n 3, 1) := by decide +kernel
theorem dX5_turnOf_43 : decode cX5_turnOf 43 = .ok (.ifCond .ne 8, 3) := by decide +kernel
theorem dX5_turnOf_46 : decode cX5_turnOf 46 = .ok (.iload 4, 2) := by decide +kernel
theorem dX5_turnOf_48 : decode cX5_turnOf 48 = .ok (.ifCond .eq 9, 3) := by decide +kernel
theorem dX5_turnOf_51 : decode cX5_turnOf 51 = .ok (.sipush 999, 3) := by decide +kernel
theorem dX5_turnOf_54 : decode cX5_turnOf 54 = .ok (.goto 4, 3) := by decide +kernel
theorem dX5_turnOf_57 : decode cX5_turnOf 57 = .ok (.iconst 0, 1) := by decide +kernel
theorem dX5_turnOf_58 : decode cX5_turnOf 58 = .ok (.istore 5, 2) := by decide +kernel
theorem dX5_turnOf_60 : decode cX5_turnOf 60 = .ok (.iconst 0, 1) := by decide +kernel
theorem dX5_turnOf_61 : decode cX5_turnOf 61 = .ok (.istore 6, 2) := by decide +kernel
theorem dX5_turnOf_63 : decode cX5_turnOf 63 = .ok (.iconst 0, 1) := by decide +kernel
theorem dX5_turnOf_64 : decode cX5_turnOf 64 = .ok (.istore 7, 2) := by decide +kernel
theorem dX5_turnOf_66 : decode cX5_turnOf 66 = .ok (.iload 7, 2) := by decide +kernel
theorem dX5_turnOf_68 : decode cX5_turnOf 68 = .ok (.iload 5, 2) := by decide +kernel
theorem dX5_turnOf_70 : decode cX5_turnOf 70 = .ok (.if_icmp .gt 46, 3) := by decide +kernel
theorem dX5_turnOf_73 : decode cX5_turnOf 73 = .ok (.aload_n 0, 1) := by decide +kernel
theorem dX5_turnOf_74 : decode cX5_turnOf 74 = .ok (.iload 7, 2) := by decide +kernel
theorem dX5_turnOf_76 : decode cX5_turnOf 76 = .ok (.invokevirtual 175, 3) := by decide +kernel
theorem dX5_turnOf_79 : decode cX5_turnOf 79 = .ok (.iload 7, 2) := by decide +kernel
theorem dX5_turnOf_81 : decode cX5_turnOf 81 = .ok (.ifCond .eq 7, 3) := by decide +kernel
theorem dX5_turnOf_84 : decode cX5_turnOf 84 = .ok (.iload_n 3, 1) := by decide +kernel
theorem dX5_turnOf_85 : decode cX5_turnOf 85 = .ok (.ifCond .eq 11, 3) := by decide +kernel
theorem dX5_turnOf_88 : decode cX5_turnOf 88 = .ok (.aload_n 0, 1) := by decide +kernel
theorem dX5_turnOf_89 : decode cX5_turnOf 89 = .ok (.iload_n 2, 1) := by decide +kernel
theorem dX5_turnOf_90 : decode cX5_turnOf 90 = .ok (.iload_n 1, 1) := by decide +kernel
theorem dX5_turnOf_91 : decode cX5_turnOf 91 = .ok (.invokevirtual 141, 3) := by decide +kernel
theorem dX5_turnOf_94 : decode cX5_turnOf 94 = .ok (.istore 6, 2) := by decide +kernel
theorem dX5_turnOf_96 : decode cX5_turnOf 96 = .ok (.iload 6, 2) := by decide +kernel
theorem dX5_turnOf_98 : decode cX5_turnOf 98 = .ok (.aload_n 0, 1) := by decide +kernel
theorem dX5_turnOf_99 : decode cX5_turnOf 99 = .ok (.iload_n 2, 1) := by decide +kernel
theorem dX5_turnOf_100 : decode cX5_turnOf 100 = .ok (.iload_n 1, 1) := by decide +kernel
theorem dX5_turnOf_101 : decode cX5_turnOf 101 = .ok (.invokevirtual 144, 3) := by decide +kernel
theorem dX5_turnOf_104 : decode cX5_turnOf 104 = .ok (.if_icmp .gt 6, 3) := by decide +kernel
theorem dX5_turnOf_107 : decode cX5_turnOf 107 = .ok (.iload 7, 2) := by decide +kernel
theorem dX5_turnOf_109 : decode cX5_turnOf 109 = .ok (.ireturn, 1) := by decide +kernel
theorem dX5_turnOf_110 : decode cX5_turnOf 110 = .ok (.iinc 7 1, 3) := by decide +kernel
theorem dX5_turnOf_113 : decode cX5_turnOf 113 = .ok (.goto (-47), 3) := by decide +kernel
theorem dX5_turnOf_116 : decode cX5_turnOf 116 = .ok (.iconst (-1), 1) := by decide +kernel
theorem dX5_turnOf_117 : decode cX5_turnOf 117 = .ok (.ireturn, 1) := by decide +kernel
theorem dX6_init_0 : decode cX6_init 0 = .ok (.aload_n 0, 1) := by decide +kernel
theorem dX6_init_1 : decode cX6_init 1 = .ok (.invokespecial 3, 3) := by decide +kernel
theorem dX6_init_4 : decode cX6_init 4 = .ok (.aload_n 0, 1) := by decide +kernel
theorem dX6_init_5 : decode cX6_init 5 = .ok (.new 9, 3) := by decide +kernel
theorem dX6_init_8 : decode cX6_init 8 = .ok (.dup, 1) := by decide +kernel
theorem dX6_init_9 : decode cX6_init 9 = .ok (.invokespecial 11, 3) := by decide +kernel
theorem dX6_init_12 : decode cX6_init 12 = .ok (.putfield 12, 3) := by decide +kernel
theorem dX6_init_15 : decode cX6_init 15 = .ok (.aload_n 0, 1) := by decide +kernel
theorem dX6_init_16 : decode cX6_init 16 = .ok (.sipush 160, 3) := by decide +kernel
theorem dX6_init_19 : decode cX6_init 19 = .ok (.newarray .int, 2) := by decide +kernel
theorem dX6_init_21 : decode cX6_init 21 = .ok (.putfield 18, 3) := by decide +kernel
theorem dX6_init_24 : decode cX6_init 24 = .ok (.aload_n 0, 1) := by decide +kernel
theorem dX6_init_25 : decode cX6_init 25 = .ok (.iconst 3, 1) := by decide +kernel
theorem dX6_init_26 : decode cX6_init 26 = .ok (.newarray .int, 2) := by decide +kernel
theorem dX6_init_28 : decode cX6_init 28 = .ok (.putfield 22, 3) := by decide +kernel
theorem dX6_init_31 : decode cX6_init 31 = .ok (.return_, 1) := by decide +kernel
theorem dX6_readTape_0 : decode cX6_readTape 0 = .ok (.aload_n 0, 1) := by decide +kernel
theorem dX6_readTape_1 : decode cX6_readTape 1 = .ok (.getfield 12, 3) := by decide +kernel
theorem dX6_readTape_4 : decode cX6_readTape 4 = .ok (.invokevirtual 25, 3) := by decide +kernel
theorem dX6_readTape_7 : decode cX6_readTape 7 = .ok (.aload_n 0, 1) := by decide +kernel
theorem dX6_readTape_8 : decode cX6_readTape 8 = .ok (.iconst 0, 1) := by decide +kernel
theorem dX6_readTape_9 : decode cX6_readTape 9 = .ok (.putfield 28, 3) := by decide +kernel
theorem dX6_readTape_12 : decode cX6_readTape 12 = .ok (.aload_n 0, 1) := by decide +kernel
theorem dX6_readTape_13 : decode cX6_readTape 13 = .ok (.iconst 0, 1) := by decide +kernel
theorem dX6_readTape_14 : decode cX6_readTape 14 = .ok (.putfield 32, 3) := by decide +kernel
theorem dX6_readTape_17 : decode cX6_readTape 17 = .ok (.aload_n 0, 1) := by decide +kernel
theorem dX6_readTape_18 : decode cX6_readTape 18 = .ok (.invokevirtual 35, 3) := by decide +kernel
theorem dX6_readTape_21 : decode cX6_readTape 21 = .ok (.istore_n 1, 1) := by decide +kernel
theorem dX6_readTape_22 : decode cX6_readTape 22 = .ok (.iload_n 1, 1) := by decide +kernel
theorem dX6_readTape_23 : decode cX6_readTape 23 = .ok (.ifCond .ne 17, 3) := by decide +kernel
theorem dX6_readTape_26 : decode cX6_readTape 26 = .ok (.aload_n 0, 1) := by decide +kernel
theorem dX6_readTape_27 : decode cX6_readTape 27 = .ok (.getfield 28, 3) := by decide +kernel
theorem dX6_readTape_30 : decode cX6_readTape 30 = .ok (.aload_n 0, 1) := by decide +kernel
theorem dX6_readTape_31 : decode cX6_readTape 31 = .ok (.getfield 12, 3) := by decide +kernel
theorem dX6_readTape_34 : decode cX6_readTape 34 = .ok (.getfield 39, 3) := by decide +kernel
theorem dX6_readTape_37 : decode cX6_readTape 37 = .ok (.if_icmp .lt 7, 3) := by decide +kernel
theorem dX6_readTape_40 : decode cX6_readTape 40 = .ok (.iconst (-1), 1) := by decide +kernel
theorem dX6_readTape_41 : decode cX6_readTape 41 = .ok (.goto 15, 3) := by decide +kernel
theorem dX6_readTape_44 : decode cX6_readTape 44 = .ok (.aload_n 0, 1) := by decide +kernel
theorem dX6_readTape_45 : decode cX6_readTape 45 = .ok (.getfield 12, 3) := by decide +kernel
theorem dX6_readTape_48 : decode cX6_readTape 48 = .ok (.getfield 42, 3) := by decide +kernel
theorem dX6_readTape_51 : decode cX6_readTape 51 = .ok (.aload_n 0, 1) := by decide +kernel
theorem dX6_readTape_52 : decode cX6_readTape 52 = .ok (.getfield 28, 3) := by decide +kernel
theorem dX6_readTape_55 : decode cX6_readTape 55 = .ok (.iaload, 1) := by decide +kernel
theorem dX6_readTape_56 : decode cX6_readTape 56 = .ok (.istore_n 2, 1) := by decide +kernel
theorem dX6_readTape_57 : decode cX6_readTape 57 = .ok (.aload_n 0, 1) := by decide +kernel
theorem dX6_readTape_58 : decode cX6_readTape 58 = .ok (.getfield 12, 3) := by decide +kernel
theorem dX6_readTape_61 : decode cX6_readTape 61 = .ok (.iconst 0, 1) := by decide +kernel
theorem dX6_readTape_62 : decode cX6_readTape 62 = .ok (.putfield 45, 3) := by decide +kernel
theorem dX6_readTape_65 : decode cX6_readTape 65 = .ok (.iload_n 2, 1) := by decide +kernel
theorem dX6_readTape_66 : decode cX6_readTape 66 = .ok (.ireturn, 1) := by decide +kernel
theorem dX6_readKeys_0 : decode cX6_readKeys 0 = .ok (.iconst 0, 1) := by decide +kernel
theorem dX6_readKeys_1 : decode cX6_readKeys 1 = .ok (.istore_n 1, 1) := by decide +kernel
theorem dX6_readKeys_2 : decode cX6_readKeys 2 = .ok (.iload_n 1, 1) := by decide +kernel
theorem dX6_readKeys_3 : decode cX6_readKeys 3 = .ok (.iconst 3, 1) := by decide +kernel
theorem dX6_readKeys_4 : decode cX6_readKeys 4 = .ok (.if_icmp .ge 50, 3) := by decide +kernel
theorem dX6_readKeys_7 : decode cX6_readKeys 7 = .ok (.aload_n 0, 1) := by decide +kernel
theorem dX6_readKeys_8 : decode cX6_readKeys 8 = .ok (.sipush 262, 3) := by decide +kernel
theorem dX6_readKeys_11 : decode cX6_readKeys 11 = .ok (.iload_n 1, 1) := by decide +kernel
theorem dX6_readKeys_12 : decode cX6_readKeys 12 = .ok (.iadd, 1) := by decide +kernel
theorem dX6_readKeys_13 : decode cX6_readKeys 13 = .ok (.invokevirtual 48, 3) := by decide +kernel
theorem dX6_readKeys_16 : decode cX6_readKeys 16 = .ok (.ifCond .eq 20, 3) := by decide +kernel
theorem dX6_readKeys_19 : decode cX6_readKeys 19 = .ok (.aload_n 0, 1) := by decide +kernel
theorem dX6_readKeys_20 : decode cX6_readKeys 20 = .ok (.iconst 0, 1) := by decide +kernel
theorem dX6_readKeys_21 : decode cX6_readKeys 21 = .ok (.invokevirtual 52, 3) := by decide +kernel
theorem dX6_readKeys_24 : decode cX6_readKeys 24 = .ok (.ifCond .eq 12, 3) := by decide +kernel
theorem dX6_readKeys_27 : decode cX6_readKeys 27 = .ok (.aload_n 0, 1) := by decide +kernel
theorem dX6_readKeys_28 : decode cX6_readKeys 28 = .ok (.bipush 59, 2) := by decide +kernel
theorem dX6_readKeys_30 : decode cX6_readKeys 30 = .ok (.invokevirtual 48, 3) := by decide +kernel
theorem dX6_readKeys_33 : decode cX6_readKeys 33 = .ok (.ifCond .ne 5, 3) := by decide +kernel
theorem dX6_readKeys_36 : decode cX6_readKeys 36 = .ok (.iconst 0, 1) := by decide +kernel
theorem dX6_readKeys_37 : decode cX6_readKeys 37 = .ok (.ireturn, 1) := by decide +kernel
theorem dX6_readKeys_38 : decode cX6_readKeys 38 = .ok (.aload_n 0, 1) := by decide +kernel
theorem dX6_readKeys_39 : decode cX6_readKeys 39 = .ok (.getfield 22, 3) := by decide +kernel
theorem dX6_readKeys_42 : decode cX6_readKeys 42 = .ok (.iload_n 1, 1) := by decide +kernel
theorem dX6_readKeys_43 : decode cX6_readKeys 43 = .ok (.aload_n 0, 1) := by decide +kernel
theorem dX6_readKeys_44 : decode cX6_readKeys 44 = .ok (.getfield 32, 3) := by decide +kernel
theorem dX6_readKeys_47 : decode cX6_readKeys 47 = .ok (.iastore, 1) := by decide +kernel
theorem dX6_readKeys_48 : decode cX6_readKeys 48 = .ok (.iinc 1 1, 3) := by decide +kernel
theorem dX6_readKeys_51 : decode cX6_readKeys 51 = .ok (.goto (-49), 3) := by decide +kernel
theorem dX6_readKeys_54 : decode cX6_readKeys 54 = .ok (.aload_n 0, 1) := by decide +kernel
theorem dX6_readKeys_55 : decode cX6_readKeys 55 = .ok (.invokevirtual 55, 3) := by decide +kernel
theorem dX6_readKeys_58 : decode cX6_readKeys 58 = .ok (.iconst (-1), 1) := by decide +kernel
theorem dX6_readKeys_59 : decode cX6_readKeys 59 = .ok (.if_icmp .ne 7, 3) := by decide +kernel
theorem dX6_readKeys_62 : decode cX6_readKeys 62 = .ok (.iconst 1, 1) := by decide +kernel
theorem dX6_readKeys_63 : decode cX6_readKeys 63 = .ok (.goto 4, 3) := by decide +kernel
theorem dX6_readKeys_66 : decode cX6_readKeys 66 = .ok (.iconst 0, 1) := by decide +kernel
theorem dX6_readKeys_67 : decode cX6_readKeys 67 = .ok (.ireturn, 1) := by decide +kernel
theorem dX6_kindNow_0 : decode cX6_kindNow 0 = .ok (.aload_n 0, 1) := by decide +kernel
theorem dX6_kindNow_1 : decode cX6_kindNow 1 = .ok (.getfield 28, 3) := by decide +kernel
theorem dX6_kindNow_4 : decode cX6_kindNow 4 = .ok (.aload_n 0, 1) := by decide +kernel
theorem dX6_kindNow_5 : decode cX6_kindNow 5 = .ok (.getfield 12, 3) := by decide +kernel
theorem dX6_kindNow_8 : decode cX6_kindNow 8 = .ok (.getfield 39, 3) := by decide +kernel
theorem dX6_kindNow_11 : decode cX6_kindNow 11 = .ok (.if_icmp .ge 18, 3) := by decide +kernel
theorem dX6_kindNow_14 : decode cX6_kindNow 14 = .ok (.aload_n 0, 1) := by decide +kernel
theorem dX6_kindNow_15 : decode cX6_kindNow 15 = .ok (.getfield 12, 3) := by decide +kernel
theorem dX6_kindNow_18 : decode cX6_kindNow 18 = .ok (.getfield 59, 3) := by decide +kernel
theorem dX6_kindNow_21 : decode cX6_kindNow 21 = .ok (.aload_n 0, 1) := by decide +kernel
theorem dX6_kindNow_22 : decode cX6_kindNow 22 = .ok (.getfield 28, 3) := by decide +kernel
theorem dX6_kindNow_25 : decode cX6_kindNow 25 = .ok (.iaload, 1) := by decide +kernel
theorem dX6_kindNow_26 : decode cX6_kindNow 26 = .ok (.goto 4, 3) := by decide +kernel
theorem dX6_kindNow_29 : decode cX6_kindNow 29 = .ok (.iconst (-1), 1) := by decide +kernel
theorem dX6_kindNow_30 : decode cX6_kindNow 30 = .ok (.ireturn, 1) := by decide +kernel
theorem dX6_pass_0 : decode cX6_pass 0 = .ok (.aload_n 0, 1) := by decide +kernel
theorem dX6_pass_1 : decode cX6_pass 1 = .ok (.invokevirtual 55, 3) := by decide +kernel
theorem dX6_pass_4 : decode cX6_pass 4 = .ok (.iload_n 1, 1) := by decide +kernel
theorem dX6_pass_5 : decode cX6_pass 5 = .ok (.if_icmp .eq 5, 3) := by decide +kernel
theorem dX6_pass_8 : decode cX6_pass 8 = .ok (.iconst 0, 1) := by decide +kernel
theorem dX6_pass_9 : decode cX6_pass 9 = .ok (.ireturn, 1) := by decide +kernel
theorem dX6_pass_10 : decode cX6_pass 10 = .ok (.aload_n 0, 1) := by decide +kernel
theorem dX6_pass_11 : decode cX6_pass 11 = .ok (.dup, 1) := by decide +kernel
theorem dX6_pass_12 : decode cX6_pass 12 = .ok (.getfield 28, 3) := by decide +kernel
theorem dX6_pass_15 : decode cX6_pass 15 = .ok (.iconst 1, 1) := by decide +kernel
theorem dX6_pass_16 : decode cX6_pass 16 = .ok (.iadd, 1) := by decide +kernel
theorem dX6_pass_17 : decode cX6_pass 17 = .ok (.putfield 28, 3) := by decide +kernel
theorem dX6_pass_20 : decode cX6_pass 20 = .ok (.iconst 1, 1) := by decide +kernel
theorem dX6_pass_21 : decode cX6_pass 21 = .ok (.ireturn, 1) := by decide +kernel
theorem dX6_emit_0 : decode cX6_emit 0 = .ok (.aload_n 0, 1) := by decide +kernel
theorem dX6_emit_1 : decode cX6_emit 1 = .ok (.getfield 32, 3) := by decide +kernel
theorem dX6_emit_4 : decode cX6_emit 4 = .ok (.sipush 160, 3) := by decide +kernel
theorem dX6_emit_7 : decode cX6_emit 7 = .ok (.if_icmp .ge 23, 3) := by decide +kernel
theorem dX6_emit_10 : decode cX6_emit 10 = .ok (.aload_n 0, 1) := by decide +kernel
theorem dX6_emit_11 : decode cX6_emit 11 = .ok (.getfield 18, 3) := by decide +kernel
theorem dX6_emit_14 : decode cX6_emit 14 = .ok (.aload_n 0, 1) := by decide +kernel
theorem dX6_emit_15 : decode cX6_emit 15 = .ok (.getfield 32, 3) := by decide +kernel
theorem dX6_emit_18 : decode cX6_emit 18 = .ok (.iload_n 1, 1) := by decide +kernel
theorem dX6_emit_19 : decode cX6_emit 19 = .ok (.iastore, 1) := by decide +kernel
theorem dX6_emit_20 : decode cX6_emit 20 = .ok (.aload_n 0, 1) := by decide +kernel
theorem dX6_emit_21 : decode cX6_emit 21 = .ok (.dup, 1) := by decide +kernel
theorem dX6_emit_22 : decode cX6_emit 22 = .ok (.getfield 32, 3) := by decide +kernel
theorem dX6_emit_25 : decode cX6_emit 25 = .ok (.iconst 1, 1) := by decide +kernel
theorem dX6_emit_26 : decode cX6_emit 26 = .ok (.iadd, 1) := by decide +kernel
theorem dX6_emit_27 : decode cX6_emit 27 = .ok (.putfield 32, 3) := by decide +kernel
theorem dX6_emit_30 : decode cX6_emit 30 = .ok (.return_, 1) := by decide +kernel
theorem dX6_readOr_0 : decode cX6_readOr 0 = .ok (.aload_n 0, 1) := by decide +kernel
theorem dX6_readOr_1 : decode cX6_readOr 1 = .ok (.iload_n 1, 1) := by decide +kernel
theorem dX6_readOr_2 : decode cX6_readOr 2 = .ok (.invokevirtual 62, 3) := by decide +kernel
theorem dX6_readOr_5 : decode cX6_readOr 5 = .ok (.ifCond .ne 5, 3) := by decide +kernel
theorem dX6_readOr_8 : decode cX6_readOr 8 = .ok (.iconst 0, 1) := by decide +kernel
theorem dX6_readOr_9 : decode cX6_readOr 9 = .ok (.ireturn, 1) := by decide +kernel
theorem dX6_readOr_10 : decode cX6_readOr 10 = .ok (.iconst 0, 1) := by decide +kernel
theorem dX6_readOr_11 : decode cX6_readOr 11 = .ok (.istore_n 2, 1) := by decide +kernel
theorem dX6_readOr_12 : decode cX6_readOr 12 = .ok (.iload_n 2, 1) := by decide +kernel
theorem dX6_readOr_13 : decode cX6_readOr 13 = .ok (.sipush 160, 3) := by decide +kernel
theorem dX6_readOr_16 : decode cX6_readOr 16 = .ok (.if_icmp .ge 35, 3) := by decide +kernel
theorem dX6_readOr_19 : decode cX6_readOr 19 = .ok (.aload_n 0, 1) := by decide +kernel
theorem dX6_readOr_20 : decode cX6_readOr 20 = .ok (.sipush 265, 3) := by decide +kernel
theorem dX6_readOr_23 : decode cX6_readOr 23 = .ok (.invokevirtual 48, 3) := by decide +kernel
theorem dX6_readOr_26 : decode cX6_readOr 26 = .ok (.ifCond .eq 25, 3) := by decide +kernel
theorem dX6_readOr_29 : decode cX6_readOr 29 = .ok (.aload_n 0, 1) := by decide +kernel
theorem dX6_readOr_30 : decode cX6_readOr 30 = .ok (.iload_n 1, 1) := by decide +kernel
theorem dX6_readOr_31 : decode cX6_readOr 31 = .ok (.invokevirtual 62, 3) := by decide +kernel
theorem dX6_readOr_34 : decode cX6_readOr 34 = .ok (.ifCond .ne 5, 3) := by decide +kernel
theorem dX6_readOr_37 : decode cX6_readOr 37 = .ok (.iconst 0, 1) := by decide +kernel
theorem dX6_readOr_38 : decode cX6_readOr 38 = .ok (.ireturn, 1) := by decide +kernel
theorem dX6_readOr_39 : decode cX6_readOr 39 = .ok (.aload_n 0, 1) := by decide +kernel
theorem dX6_readOr_40 : decode cX6_readOr 40 = .ok (.bipush (-11), 2) := by decide +kernel
theorem dX6_readOr_42 : decode cX6_readOr 42 = .ok (.invokevirtual 65, 3) := by decide +kernel
theorem dX6_readOr_45 : decode cX6_readOr 45 = .ok (.iinc 2 1, 3) := by decide +kernel
theorem dX6_readOr_48 : decode cX6_readOr 48 = .ok (.goto (-36), 3) := by decide +kernel
theorem dX6_readOr_51 : decode cX6_readOr 51 = .ok (.iconst 1, 1) := by decide +kernel
theorem dX6_readOr_52 : decode cX6_readOr 52 = .ok (.ireturn, 1) := by decide +kernel
theorem dX6_readAnd_0 : decode cX6_readAnd 0 = .ok (.aload_n 0, 1) := by decide +kernel
theorem dX6_readAnd_1 : decode cX6_readAnd 1 = .ok (.iload_n 1, 1) := by decide +kernel
theorem dX6_readAnd_2 : decode cX6_readAnd 2 = .ok (.invokevirtual 69, 3) := by decide +kernel
theorem dX6_readAnd_5 : decode cX6_readAnd 5 = .ok (.ifCond .ne 5, 3) := by decide +kernel
theorem dX6_readAnd_8 : decode cX6_readAnd 8 = .ok (.iconst 0, 1) := by decide +kernel
theorem dX6_readAnd_9 : decode cX6_readAnd 9 = .ok (.ireturn, 1) := by decide +kernel
theorem dX6_readAnd_10 : decode cX6_readAnd 10 = .ok (.iconst 0, 1) := by decide +kernel
theorem dX6_readAnd_11 : decode cX6_readAnd 11 = .ok (.istore_n 2, 1) := by decide +kernel
theorem dX6_readAnd_12 : decode cX6_readAnd 12 = .ok (.iload_n 2, 1) := by decide +kernel
theorem dX6_readAnd_13 : decode cX6_readAnd 13 = .ok (.sipush 160, 3) := by decide +kernel
theorem dX6_readAnd_16 : decode cX6_readAnd 16 = .ok (.if_icmp .ge 35, 3) := by decide +kernel
theorem dX6_readAnd_19 : decode cX6_readAnd 19 = .ok (.aload_n 0, 1) := by decide +kernel
theorem dX6_readAnd_20 : decode cX6_readAnd 20 = .ok (.sipush 266, 3) := by decide +kernel
theorem dX6_readAnd_23 : decode cX6_readAnd 23 = .ok (.invokevirtual 48, 3) := by decide +kernel
theorem dX6_readAnd_26 : decode cX6_readAnd 26 = .ok (.ifCond .eq 25, 3) := by decide +kernel
theorem dX6_readAnd_29 : decode cX6_readAnd 29 = .ok (.aload_n 0, 1) := by decide +kernel
theorem dX6_readAnd_30 : decode cX6_readAnd 30 = .ok (.iload_n 1, 1) := by decide +kernel
theorem dX6_readAnd_31 : decode cX6_readAnd 31 = .ok (.invokevirtual 69, 3) := by decide +kernel
theorem dX6_readAnd_34 : decode cX6_readAnd 34 = .ok (.ifCond .ne 5, 3) := by decide +kernel
theorem dX6_readAnd_37 : decode cX6_readAnd 37 = .ok (.iconst 0, 1) := by decide +kernel
theorem dX6_readAnd_38 : decode cX6_readAnd 38 = .ok (.ireturn, 1) := by decide +kernel
theorem dX6_readAnd_39 : decode cX6_readAnd 39 = .ok (.aload_n 0, 1) := by decide +kernel
theorem dX6_readAnd_40 : decode cX6_readAnd 40 = .ok (.bipush (-12), 2) := by decide +kernel
theorem dX6_readAnd_42 : decode cX6_readAnd 42 = .ok (.invokevirtual 65, 3) := by decide +kernel
theorem dX6_readAnd_45 : decode cX6_readAnd 45 = .ok (.iinc 2 1, 3) := by decide +kernel
theorem dX6_readAnd_48 : decode cX6_readAnd 48 = .ok (.goto (-36), 3) := by decide +kernel
theorem dX6_readAnd_51 : decode cX6_readAnd 51 = .ok (.iconst 1, 1) := by decide +kernel
theorem dX6_readAnd_52 : decode cX6_readAnd 52 = .ok (.ireturn, 1) := by decide +kernel
theorem dX6_readNot_0 : decode cX6_readNot 0 = .ok (.aload_n 0, 1) := by decide +kernel
theorem dX6_readNot_1 : decode cX6_readNot 1 = .ok (.invokevirtual 55, 3) := by decide +kernel
theorem dX6_readNot_4 : decode cX6_readNot 4 = .ok (.sipush 267, 3) := by decide +kernel
theorem dX6_readNot_7 : decode cX6_readNot 7 = .ok (.if_icmp .ne 40, 3) := by decide +kernel
theorem dX6_readNot_10 : decode cX6_readNot 10 = .ok (.iload_n 1, 1) := by decide +kernel
theorem dX6_readNot_11 : decode cX6_readNot 11 = .ok (.iconst 5, 1) := by decide +kernel
theorem dX6_readNot_12 : decode cX6_readNot 12 = .ok (.if_icmp .lt 5, 3) := by decide +kernel
theorem dX6_readNot_15 : decode cX6_readNot 15 = .ok (.iconst 0, 1) := by decide +kernel
theorem dX6_readNot_16 : decode cX6_readNot 16 = .ok (.ireturn, 1) := by decide +kernel
theorem dX6_readNot_17 : decode cX6_readNot 17 = .ok (.aload_n 0, 1) := by decide +kernel
theorem dX6_readNot_18 : decode cX6_readNot 18 = .ok (.dup, 1) := by decide +kernel
theorem dX6_readNot_19 : decode cX6_readNot 19 = .ok (.getfield 28, 3) := by decide +kernel
theorem dX6_readNot_22 : decode cX6_readNot 22 = .ok (.iconst 1, 1) := by decide +kernel
theorem dX6_readNot_23 : decode cX6_readNot 23 = .ok (.iadd, 1) := by decide +kernel
theorem dX6_readNot_24 : decode cX6_readNot 24 = .ok (.putfield 28, 3) := by decide +kernel
theorem dX6_readNot_27 : decode cX6_readNot 27 = .ok (.aload_n 0, 1) := by decide +kernel
theorem dX6_readNot_28 : decode cX6_readNot 28 = .ok (.iload_n 1, 1) := by decide +kernel
theorem dX6_readNot_29 : decode cX6_readNot 29 = .ok (.iconst 1, 1) := by decide +kernel
theorem dX6_readNot_30 : decode cX6_readNot 30 = .ok (.iadd, 1) := by decide +kernel
theorem dX6_readNot_31 : decode cX6_readNot 31 = .ok (.invokevirtual 69, 3) := by decide +kernel
theorem dX6_readNot_34 : decode cX6_readNot 34 = .ok (.ifCond .ne 5, 3) := by decide +kernel
theorem dX6_readNot_37 : decode cX6_readNot 37 = .ok (.iconst 0, 1) := by decide +kernel
theorem dX6_readNot_38 : decode cX6_readNot 38 = .ok (.ireturn, 1) := by decide +kernel
theorem dX6_readNot_39 : decode cX6_readNot 39 = .ok (.aload_n 0, 1) := by decide +kernel
theorem dX6_readNot_40 : decode cX6_readNot 40 = .ok (.bipush (-13), 2) := by decide +kernel
theorem dX6_readNot_42 : decode cX6_readNot 42 = .ok (.invokevirtual 65, 3) := by decide +kernel
theorem dX6_readNot_45 : decode cX6_readNot 45 = .ok (.iconst 1, 1) := by decide +kernel
theorem dX6_readNot_46 : decode cX6_readNot 46 = .ok (.ireturn, 1) := by decide +kernel
theorem dX6_readNot_47 : decode cX6_readNot 47 = .ok (.aload_n 0, 1) := by decide +kernel
theorem dX6_readNot_48 : decode cX6_readNot 48 = .ok (.iload_n 1, 1) := by decide +kernel
theorem dX6_readNot_49 : decode cX6_readNot 49 = .ok (.invokevirtual 72, 3) := by decide +kernel
theorem dX6_readNot_52 : decode cX6_readNot 52 = .ok (.ifCond .ne 5, 3) := by decide +kernel
theorem dX6_readNot_55 : decode cX6_readNot 55 = .ok (.iconst 0, 1) := by decide +kernel
theorem dX6_readNot_56 : decode cX6_readNot 56 = .ok (.ireturn, 1) := by decide +kernel
theorem dX6_readNot_57 : decode cX6_readNot 57 = .ok (.aload_n 0, 1) := by decide +kernel
theorem dX6_readNot_58 : decode cX6_readNot 58 = .ok (.invokevirtual 55, 3) := by decide +kernel
theorem dX6_readNot_61 : decode cX6_readNot 61 = .ok (.istore_n 2, 1) := by decide +kernel
theorem dX6_readNot_62 : decode cX6_readNot 62 = .ok (.iload_n 2, 1) := by decide +kernel
theorem dX6_readNot_63 : decode cX6_readNot 63 = .ok (.bipush 60, 2) := by decide +kernel
theorem dX6_readNot_65 : decode cX6_readNot 65 = .ok (.if_icmp .eq 9, 3) := by decide +kernel
theorem dX6_readNot_68 : decode cX6_readNot 68 = .ok (.iload_n 2, 1) := by decide +kernel
theorem dX6_readNot_69 : decode cX6_readNot 69 = .ok (.bipush 61, 2) := by decide +kernel
theorem dX6_readNot_71 : decode cX6_readNot 71 = .ok (.if_icmp .ne 40, 3) := by decide +kernel
theorem dX6_readNot_74 : decode cX6_readNot 74 = .ok (.aload_n 0, 1) := by decide +kernel
theorem dX6_readNot_75 : decode cX6_readNot 75 = .ok (.dup, 1) := by decide +kernel
theorem dX6_readNot_76 : decode cX6_readNot 76 = .ok (.getfield 28, 3) := by decide +kernel
theorem dX6_readNot_79 : decode cX6_readNot 79 = .ok (.iconst 1, 1) := by decide +kernel
theorem dX6_readNot_80 : decode cX6_readNot 80 = .ok (.iadd, 1) := by decide +kernel
theorem dX6_readNot_81 : decode cX6_readNot 81 = .ok (.putfield 28, 3) := by decide +kernel
theorem dX6_readNot_84 : decode cX6_readNot 84 = .ok (.aload_n 0, 1) := by decide +kernel
theorem dX6_readNot_85 : decode cX6_readNot 85 = .ok (.iload_n 1, 1) := by decide +kernel
theorem dX6_readNot_86 : decode cX6_readNot 86 = .ok (.invokevirtual 72, 3) := by decide +kernel
theorem dX6_readNot_89 : decode cX6_readNot 89 = .ok (.ifCond .ne 5, 3) := by decide +kernel
theorem dX6_readNot_92 : decode cX6_readNot 92 = .ok (.iconst 0, 1) := by decide +kernel
theorem dX6_readNot_93 : decode cX6_readNot 93 = .ok (.ireturn, 1) := by decide +kernel
theorem dX6_readNot_94 : decode cX6_readNot 94 = .ok (.aload_n 0, 1) := by decide +kernel
theorem dX6_readNot_95 : decode cX6_readNot 95 = .ok (.iload_n 2, 1) := by decide +kernel
theorem dX6_readNot_96 : decode cX6_readNot 96 = .ok (.bipush 60, 2) := by decide +kernel
theorem dX6_readNot_98 : decode cX6_readNot 98 = .ok (.if_icmp .ne 8, 3) := by decide +kernel
theorem dX6_readNot_101 : decode cX6_readNot 101 = .ok (.bipush (-14), 2) := by decide +kernel
theorem dX6_readNot_103 : decode cX6_readNot 103 = .ok (.goto 5, 3) := by decide +kernel
theorem dX6_readNot_106 : decode cX6_readNot 106 = .ok (.bipush (-15), 2) := by decide +kernel
theorem dX6_readNot_108 : decode cX6_readNot 108 = .ok (.invokevirtual 65, 3) := by decide +kernel
theorem dX6_readNot_111 : decode cX6_readNot 111 = .ok (.iconst 1, 1) := by decide +kernel
theorem dX6_readNot_112 : decode cX6_readNot 112 = .ok (.ireturn, 1) := by decide +kernel
theorem dX6_readSum_0 : decode cX6_readSum 0 = .ok (.aload_n 0, 1) := by decide +kernel
theorem dX6_readSum_1 : decode cX6_readSum 1 = .ok (.iload_n 1, 1) := by decide +kernel
theorem dX6_readSum_2 : decode cX6_readSum 2 = .ok (.invokevirtual 75, 3) := by decide +kernel
theorem dX6_readSum_5 : decode cX6_readSum 5 = .ok (.ifCond .ne 5, 3) := by decide +kernel
theorem dX6_readSum_8 : decode cX6_readSum 8 = .ok (.iconst 0, 1) := by decide +kernel
theorem dX6_readSum_9 : decode cX6_readSum 9 = .ok (.ireturn, 1) := by decide +kernel
theorem dX6_readSum_10 : decode cX6_readSum 10 = .ok (.aload_n 0, 1) := by decide +kernel
theorem dX6_readSum_11 : decode cX6_readSum 11 = .ok (.invokevirtual 55, 3) := by decide +kernel
theorem dX6_readSum_14 : decode cX6_readSum 14 = .ok (.istore_n 2, 1) := by decide +kernel
theorem dX6_readSum_15 : decode cX6_readSum 15 = .ok (.iconst 0, 1) := by decide +kernel
theorem dX6_readSum_16 : decode cX6_readSum 16 = .ok (.istore_n 3, 1) := by decide +kernel
theorem dX6_readSum_17 : decode cX6_readSum 17 = .ok (.iload_n 3, 1) := by decide +kernel
theorem dX6_readSum_18 : decode cX6_readSum 18 = .ok (.sipush 160, 3) := by decide +kernel
theorem dX6_readSum_21 : decode cX6_readSum 21 = .ok (.if_icmp .ge 63, 3) := by decide +kernel
theorem dX6_readSum_24 : decode cX6_readSum 24 = .ok (.iload_n 2, 1) := by decide +kernel
theorem dX6_readSum_25 : decode cX6_readSum 25 = .ok (.bipush 43, 2) := by decide +kernel
theorem dX6_readSum_27 : decode cX6_readSum 27 = .ok (.if_icmp .eq 9, 3) := by decide +kernel
theorem dX6_readSum_30 : decode cX6_readSum 30 = .ok (.iload_n 2, 1) := by decide +kernel
theorem dX6_readSum_31 : decode cX6_readSum 31 = .ok (.bipush 45, 2) := by decide +kernel
theorem dX6_readSum_33 : decode cX6_readSum 33 = .ok (.if_icmp .ne 51, 3) := by decide +kernel
theorem dX6_readSum_36 : decode cX6_readSum 36 = .ok (.aload_n 0, 1) := by decide +kernel
theorem dX6_readSum_37 : decode cX6_readSum 37 = .ok (.dup, 1) := by decide +kernel
theorem dX6_readSum_38 : decode cX6_readSum 38 = .ok (.getfield 28, 3) := by decide +kernel
theorem dX6_readSum_41 : decode cX6_readSum 41 = .ok (.iconst 1, 1) := by decide +kernel
theorem dX6_readSum_42 : decode cX6_readSum 42 = .ok (.iadd, 1) := by decide +kernel
theorem dX6_readSum_43 : decode cX6_readSum 43 = .ok (.putfield 28, 3) := by decide +kernel
theorem dX6_readSum_46 : decode cX6_readSum 46 = .ok (.aload_n 0, 1) := by decide +kernel
theorem dX6_readSum_47 : decode cX6_readSum 47 = .ok (.iload_n 1, 1) := by decide +kernel
theorem dX6_readSum_48 : decode cX6_readSum 48 = .ok (.invokevirtual 75, 3) := by decide +kernel
theorem dX6_readSum_51 : decode cX6_readSum 51 = .ok (.ifCond .ne 5, 3) := by decide +kernel
theorem dX6_readSum_54 : decode cX6_readSum 54 = .ok (.iconst 0, 1) := by decide +kernel
theorem dX6_readSum_55 : decode cX6_readSum 55 = .ok (.ireturn, 1) := by decide +kernel
theorem dX6_readSum_56 : decode cX6_readSum 56 = .ok (.aload_n 0, 1) := by decide +kernel
theorem dX6_readSum_57 : decode cX6_readSum 57 = .ok (.iload_n 2, 1) := by decide +kernel
theorem dX6_readSum_58 : decode cX6_readSum 58 = .ok (.bipush 43, 2) := by decide +kernel
theorem dX6_readSum_60 : decode cX6_readSum 60 = .ok (.if_icmp .ne 8, 3) := by decide +kernel
theorem dX6_readSum_63 : decode cX6_readSum 63 = .ok (.bipush (-16), 2) := by decide +kernel
theorem dX6_readSum_65 : decode cX6_readSum 65 = .ok (.goto 5, 3) := by decide +kernel
theorem dX6_readSum_68 : decode cX6_readSum 68 = .ok (.bipush (-17), 2) := by decide +kernel
theorem dX6_readSum_70 : decode cX6_readSum 70 = .ok (.invokevirtual 65, 3) := by decide +kernel
theorem dX6_readSum_73 : decode cX6_readSum 73 = .ok (.aload_n 0, 1) := by decide +kernel
theorem dX6_readSum_74 : decode cX6_readSum 74 = .ok (.invokevirtual 55, 3) := by decide +kernel
theorem dX6_readSum_77 : decode cX6_readSum 77 = .ok (.istore_n 2, 1) := by decide +kernel
theorem dX6_readSum_78 : decode cX6_readSum 78 = .ok (.iinc 3 1, 3) := by decide +kernel
theorem dX6_readSum_81 : decode cX6_readSum 81 = .ok (.goto (-64), 3) := by decide +kernel
theorem dX6_readSum_84 : decode cX6_readSum 84 = .ok (.iconst 1, 1) := by decide +kernel
theorem dX6_readSum_85 : decode cX6_readSum 85 = .ok (.ireturn, 1) := by decide +kernel
theorem dX6_readTerm_0 : decode cX6_readTerm 0 = .ok (.aload_n 0, 1) := by decide +kernel
theorem dX6_readTerm_1 : decode cX6_readTerm 1 = .ok (.iload_n 1, 1) := by decide +kernel
theorem dX6_readTerm_2 : decode cX6_readTerm 2 = .ok (.invokevirtual 78, 3) := by decide +kernel
theorem dX6_readTerm_5 : decode cX6_readTerm 5 = .ok (.ifCond .ne 5, 3) := by decide +kernel
theorem dX6_readTerm_8 : decode cX6_readTerm 8 = .ok (.iconst 0, 1) := by decide +kernel
theorem dX6_readTerm_9 : decode cX6_readTerm 9 = .ok (.ireturn, 1) := by decide +kernel
theorem dX6_readTerm_10 : decode cX6_readTerm 10 = .ok (.iconst 0, 1) := by decide +kernel
theorem dX6_readTerm_11 : decode cX6_readTerm 11 = .ok (.istore_n 2, 1) := by decide +kernel
theorem dX6_readTerm_12 : decode cX6_readTerm 12 = .ok (.iload_n 2, 1) := by decide +kernel
theorem dX6_readTerm_13 : decode cX6_readTerm 13 = .ok (.sipush 160, 3) := by decide +kernel
theorem dX6_readTerm_16 : decode cX6_readTerm 16 = .ok (.if_icmp .ge 34, 3) := by decide +kernel
theorem dX6_readTerm_19 : decode cX6_readTerm 19 = .ok (.aload_n 0, 1) := by decide +kernel
theorem dX6_readTerm_20 : decode cX6_readTerm 20 = .ok (.bipush 42, 2) := by decide +kernel
theorem dX6_readTerm_22 : decode cX6_readTerm 22 = .ok (.invokevirtual 48, 3) := by decide +kernel
theorem dX6_readTerm_25 : decode cX6_readTerm 25 = .ok (.ifCond .eq 25, 3) := by decide +kernel
theorem dX6_readTerm_28 : decode cX6_readTerm 28 = .ok (.aload_n 0, 1) := by decide +kernel
theorem dX6_readTerm_29 : decode cX6_readTerm 29 = .ok (.iload_n 1, 1) := by decide +kernel
theorem dX6_readTerm_30 : decode cX6_readTerm 30 = .ok (.invokevirtual 78, 3) := by decide +kernel
theorem dX6_readTerm_33 : decode cX6_readTerm 33 = .ok (.ifCond .ne 5, 3) := by decide +kernel
theorem dX6_readTerm_36 : decode cX6_readTerm 36 = .ok (.iconst 0, 1) := by decide +kernel
theorem dX6_readTerm_37 : decode cX6_readTerm 37 = .ok (.ireturn, 1) := by decide +kernel
theorem dX6_readTerm_38 : decode cX6_readTerm 38 = .ok (.aload_n 0, 1) := by decide +kernel
theorem dX6_readTerm_39 : decode cX6_readTerm 39 = .ok (.bipush (-18), 2) := by decide +kernel
theorem dX6_readTerm_41 : decode cX6_readTerm 41 = .ok (.invokevirtual 65, 3) := by decide +kernel
theorem dX6_readTerm_44 : decode cX6_readTerm 44 = .ok (.iinc 2 1, 3) := by decide +kernel
theorem dX6_readTerm_47 : decode cX6_readTerm 47 = .ok (.goto (-35), 3) := by decide +kernel
theorem dX6_readTerm_50 : decode cX6_readTerm 50 = .ok (.iconst 1, 1) := by decide +kernel
theorem dX6_readTerm_51 : decode cX6_readTerm 51 = .ok (.ireturn, 1) := by decide +kernel
theorem dX6_readOne_0 : decode cX6_readOne 0 = .ok (.aload_n 0, 1) := by decide +kernel
theorem dX6_readOne_1 : decode cX6_readOne 1 = .ok (.invokevirtual 55, 3) := by decide +kernel
theorem dX6_readOne_4 : decode cX6_readOne 4 = .ok (.istore_n 2, 1) := by decide +kernel
theorem dX6_readOne_5 : decode cX6_readOne 5 = .ok (.iload_n 2, 1) := by decide +kernel
theorem dX6_readOne_6 : decode cX6_readOne 6 = .ok (.bipush (-3), 2) := by decide +kernel
theorem dX6_readOne_8 : decode cX6_readOne 8 = .ok (.if_icmp .eq 9, 3) := by decide +kernel
theorem dX6_readOne_11 : decode cX6_readOne 11 = .ok (.iload_n 2, 1) := by decide +kernel
theorem dX6_readOne_12 : decode cX6_readOne 12 = .ok (.bipush (-4), 2) := by decide +kernel
theorem dX6_readOne_14 : decode cX6_readOne 14 = .ok (.if_icmp .ne 31, 3) := by decide +kernel
theorem dX6_readOne_17 : decode cX6_readOne 17 = .ok (.aload_n 0, 1) := by decide +kernel
theorem dX6_readOne_18 : decode cX6_readOne 18 = .ok (.aload_n 0, 1) := by decide +kernel
theorem dX6_readOne_19 : decode cX6_readOne 19 = .ok (.getfield 12, 3) := by decide +kernel
theorem dX6_readOne_22 : decode cX6_readOne 22 = .ok (.getfield 81, 3) := by decide +kernel
theorem dX6_readOne_25 : decode cX6_readOne 25 = .ok (.aload_n 0, 1) := by decide +kernel
theorem dX6_readOne_26 : decode cX6_readOne 26 = .ok (.getfield 28, 3) := by decide +kernel
theorem dX6_readOne_29 : decode cX6_readOne 29 = .ok (.iaload, 1) := by decide +kernel
theorem dX6_readOne_30 : decode cX6_readOne 30 = .ok (.invokevirtual 65, 3) := by decide +kernel
theorem dX6_readOne_33 : decode cX6_readOne 33 = .ok (.aload_n 0, 1) := by decide +kernel
theorem dX6_readOne_34 : decode cX6_readOne 34 = .ok (.dup, 1) := by decide +kernel
theorem dX6_readOne_35 : decode cX6_readOne 35 = .ok (.getfield 28, 3) := by decide +kernel
theorem dX6_readOne_38 : decode cX6_readOne 38 = .ok (.iconst 1, 1) := by decide +kernel
theorem dX6_readOne_39 : decode cX6_readOne 39 = .ok (.iadd, 1) := by decide +kernel
theorem dX6_readOne_40 : decode cX6_readOne 40 = .ok (.putfield 28, 3) := by decide +kernel
theorem dX6_readOne_43 : decode cX6_readOne 43 = .ok (.iconst 1, 1) := by decide +kernel
theorem dX6_readOne_44 : decode cX6_readOne 44 = .ok (.ireturn, 1) := by decide +kernel
theorem dX6_readOne_45 : decode cX6_readOne 45 = .ok (.iload_n 2, 1) := by decide +kernel
theorem dX6_readOne_46 : decode cX6_readOne 46 = .ok (.bipush 40, 2) := by decide +kernel
theorem dX6_readOne_48 : decode cX6_readOne 48 = .ok (.if_icmp .eq 9, 3) := by decide +kernel
theorem dX6_readOne_51 : decode cX6_readOne 51 = .ok (.iload_n 2, 1) := by decide +kernel
theorem dX6_readOne_52 : decode cX6_readOne 52 = .ok (.bipush 45, 2) := by decide +kernel
theorem dX6_readOne_54 : decode cX6_readOne 54 = .ok (.if_icmp .ne 8, 3) := by decide +kernel
theorem dX6_readOne_57 : decode cX6_readOne 57 = .ok (.iload_n 1, 1) := by decide +kernel
theorem dX6_readOne_58 : decode cX6_readOne 58 = .ok (.iconst 5, 1) := by decide +kernel
theorem dX6_readOne_59 : decode cX6_readOne 59 = .ok (.if_icmp .lt 5, 3) := by decide +kernel
theorem dX6_readOne_62 : decode cX6_readOne 62 = .ok (.iconst 0, 1) := by decide +kernel
theorem dX6_readOne_63 : decode cX6_readOne 63 = .ok (.ireturn, 1) := by decide +kernel
theorem dX6_readOne_64 : decode cX6_readOne 64 = .ok (.aload_n 0, 1) := by decide +kernel
theorem dX6_readOne_65 : decode cX6_readOne 65 = .ok (.dup, 1) := by decide +kernel
theorem dX6_readOne_66 : decode cX6_readOne 66 = .ok (.getfield 28, 3) := by decide +kernel
theorem dX6_readOne_69 : decode cX6_readOne 69 = .ok (.iconst 1, 1) := by decide +kernel
theorem dX6_readOne_70 : decode cX6_readOne 70 = .ok (.iadd, 1) := by decide +kernel
theorem dX6_readOne_71 : decode cX6_readOne 71 = .ok (.putfield 28, 3) := by decide +kernel
theorem dX6_readOne_74 : decode cX6_readOne 74 = .ok (.iload_n 2, 1) := by decide +kernel
theorem dX6_readOne_75 : decode cX6_readOne 75 = .ok (.bipush 40, 2) := by decide +kernel
theorem dX6_readOne_77 : decode cX6_readOne 77 = .ok (.if_icmp .ne 28, 3) := by decide +kernel
theorem dX6_readOne_80 : decode cX6_readOne 80 = .ok (.aload_n 0, 1) := by decide +kernel
theorem dX6_readOne_81 : decode cX6_readOne 81 = .ok (.iload_n 1, 1) := by decide +kernel
theorem dX6_readOne_82 : decode cX6_readOne 82 = .ok (.iconst 1, 1) := by decide +kernel
theorem dX6_readOne_83 : decode cX6_readOne 83 = .ok (.iadd, 1) := by decide +kernel
theorem dX6_readOne_84 : decode cX6_readOne 84 = .ok (.invokevirtual 52, 3) := by decide +kernel
theorem dX6_readOne_87 : decode cX6_readOne 87 = .ok (.ifCond .eq 16, 3) := by decide +kernel
theorem dX6_readOne_90 : decode cX6_readOne 90 = .ok (.aload_n 0, 1) := by decide +kernel
theorem dX6_readOne_91 : decode cX6_readOne 91 = .ok (.bipush 41, 2) := by decide +kernel
theorem dX6_readOne_93 : decode cX6_readOne 93 = .ok (.invokevirtual 48, 3) := by decide +kernel
theorem dX6_readOne_96 : decode cX6_readOne 96 = .ok (.ifCond .eq 7, 3) := by decide +kernel
theorem dX6_readOne_99 : decode cX6_readOne 99 = .ok (.iconst 1, 1) := by decide +kernel
theorem dX6_readOne_100 : decode cX6_readOne 100 = .ok (.goto 4, 3) := by decide +kernel
theorem dX6_readOne_103 : decode cX6_readOne 103 = .ok (.iconst 0, 1) := by decide +kernel
theorem dX6_readOne_104 : decode cX6_readOne 104 = .ok (.ireturn, 1) := by decide +kernel
theorem dX6_readOne_105 : decode cX6_readOne 105 = .ok (.aload_n 0, 1) := by decide +kernel
theorem dX6_readOne_106 : decode cX6_readOne 106 = .ok (.iload_n 1, 1) := by decide +kernel
theorem dX6_readOne_107 : decode cX6_readOne 107 = .ok (.iconst 1, 1) := by decide +kernel
theorem dX6_readOne_108 : decode cX6_readOne 108 = .ok (.iadd, 1) := by decide +kernel
theorem dX6_readOne_109 : decode cX6_readOne 109 = .ok (.invokevirtual 78, 3) := by decide +kernel
theorem dX6_readOne_112 : decode cX6_readOne 112 = .ok (.ifCond .ne 5, 3) := by decide +kernel
theorem dX6_readOne_115 : decode cX6_readOne 115 = .ok (.iconst 0, 1) := by decide +kernel
theorem dX6_readOne_116 : decode cX6_readOne 116 = .ok (.ireturn, 1) := by decide +kernel
theorem dX6_readOne_117 : decode cX6_readOne 117 = .ok (.aload_n 0, 1) := by decide +kernel
theorem dX6_readOne_118 : decode cX6_readOne 118 = .ok (.bipush (-19), 2) := by decide +kernel
theorem dX6_readOne_120 : decode cX6_readOne 120 = .ok (.invokevirtual 65, 3) := by decide +kernel
theorem dX6_readOne_123 : decode cX6_readOne 123 = .ok (.iconst 1, 1) := by decide +kernel
theorem dX6_readOne_124 : decode cX6_readOne 124 = .ok (.ireturn, 1) := by decide +kernel
theorem dX7_init_0 : decode cX7_init 0 = .ok (.aload_n 0, 1) := by decide +kernel
theorem dX7_init_1 : decode cX7_init 1 = .ok (.invokespecial 3, 3) := by decide +kernel
theorem dX7_init_4 : decode cX7_init 4 = .ok (.aload_n 0, 1) := by decide +kernel
theorem dX7_init_5 : decode cX7_init 5 = .ok (.iconst 4, 1) := by decide +kernel
theorem dX7_init_6 : decode cX7_init 6 = .ok (.newarray .int, 2) := by decide +kernel
theorem dX7_init_8 : decode cX7_init 8 = .ok (.dup, 1) := by decide +kernel
theorem dX7_init_9 : decode cX7_init 9 = .ok (.iconst 0, 1) := by decide +kernel
theorem dX7_init_10 : decode cX7_init 10 = .ok (.iconst (-1), 1) := by decide +kernel
theorem dX7_init_11 : decode cX7_init 11 = .ok (.iastore, 1) := by decide +kernel
theorem dX7_init_12 : decode cX7_init 12 = .ok (.dup, 1) := by decide +kernel
theorem dX7_init_13 : decode cX7_init 13 = .ok (.iconst 1, 1) := by decide +kernel
theorem dX7_init_14 : decode cX7_init 14 = .ok (.iconst (-1), 1) := by decide +kernel
theorem dX7_init_15 : decode cX7_init 15 = .ok (.iastore, 1) := by decide +kernel
theorem dX7_init_16 : decode cX7_init 16 = .ok (.dup, 1) := by decide +kernel
theorem dX7_init_17 : decode cX7_init 17 = .ok (.iconst 2, 1) := by decide +kernel
theorem dX7_init_18 : decode cX7_init 18 = .ok (.iconst (-1), 1) := by decide +kernel
theorem dX7_init_19 : decode cX7_init 19 = .ok (.iastore, 1) := by decide +kernel
theorem dX7_init_20 : decode cX7_init 20 = .ok (.dup, 1) := by decide +kernel
theorem dX7_init_21 : decode cX7_init 21 = .ok (.iconst 3, 1) := by decide +kernel
theorem dX7_init_22 : decode cX7_init 22 = .ok (.iconst (-1), 1) := by decide +kernel
theorem dX7_init_23 : decode cX7_init 23 = .ok (.iastore, 1) := by decide +kernel
theorem dX7_init_24 : decode cX7_init 24 = .ok (.putfield 9, 3) := by decide +kernel
theorem dX7_init_27 : decode cX7_init 27 = .ok (.aload_n 0, 1) := by decide +kernel
theorem dX7_init_28 : decode cX7_init 28 = .ok (.iconst 4, 1) := by decide +kernel
theorem dX7_init_29 : decode cX7_init 29 = .ok (.newarray .int, 2) := by decide +kernel
theorem dX7_init_31 : decode cX7_init 31 = .ok (.putfield 15, 3) := by decide +kernel
theorem dX7_init_34 : decode cX7_init 34 = .ok (.aload_n 0, 1) := by decide +kernel
theorem dX7_init_35 : decode cX7_init 35 = .ok (.sipush 160, 3) := by decide +kernel
theorem dX7_init_38 : decode cX7_init 38 = .ok (.newarray .int, 2) := by decide +kernel
theorem dX7_init_40 : decode cX7_init 40 = .ok (.putfield 18, 3) := by decide +kernel
theorem dX7_init_43 : decode cX7_init 43 = .ok (.return_, 1) := by decide +kernel
theorem dX7_isMissing_0 : decode cX7_isMissing 0 = .ok (.aload_n 0, 1) := by decide +kernel
theorem dX7_isMissing_1 : decode cX7_isMissing 1 = .ok (.getfield 9, 3) := by decide +kernel
theorem dX7_isMissing_4 : decode cX7_isMissing 4 = .ok (.iload_n 1, 1) := by decide +kernel
theorem dX7_isMissing_5 : decode cX7_isMissing 5 = .ok (.iaload, 1) := by decide +kernel
theorem dX7_isMissing_6 : decode cX7_isMissing 6 = .ok (.iconst (-1), 1) := by decide +kernel
theorem dX7_isMissing_7 : decode cX7_isMissing 7 = .ok (.if_icmp .ne 7, 3) := by decide +kernel
theorem dX7_isMissing_10 : decode cX7_isMissing 10 = .ok (.iconst 1, 1) := by decide +kernel
theorem dX7_isMissing_11 : decode cX7_isMissing 11 = .ok (.goto 4, 3) := by decide +kernel
theorem dX7_isMissing_14 : decode cX7_isMissing 14 = .ok (.iconst 0, 1) := by decide +kernel
theorem dX7_isMissing_15 : decode cX7_isMissing 15 = .ok (.ireturn, 1) := by decide +kernel
theorem dX7_has_0 : decode cX7_has 0 = .ok (.iload_n 2, 1) := by decide +kernel
theorem dX7_has_1 : decode cX7_has 1 = .ok (.ifCond .lt 17, 3) := by decide +kernel
theorem dX7_has_4 : decode cX7_has 4 = .ok (.iload_n 2, 1) := by decide +kernel
theorem dX7_has_5 : decode cX7_has 5 = .ok (.aload_n 0, 1) := by decide +kernel
theorem dX7_has_6 : decode cX7_has 6 = .ok (.getfield 15, 3) := by decide +kernel
theorem dX7_has_9 : decode cX7_has 9 = .ok (.iload_n 1, 1) := by decide +kernel
theorem dX7_has_10 : decode cX7_has 10 = .ok (.iaload, 1) := by decide +kernel
theorem dX7_has_11 : decode cX7_has 11 = .ok (.if_icmp .ge 7, 3) := by decide +kernel
theorem dX7_has_14 : decode cX7_has 14 = .ok (.iconst 1, 1) := by decide +kernel
theorem dX7_has_15 : decode cX7_has 15 = .ok (.goto 4, 3) := by decide +kernel
theorem dX7_has_18 : decode cX7_has 18 = .ok (.iconst 0, 1) := by decide +kernel
theorem dX7_has_19 : decode cX7_has 19 = .ok (.ireturn, 1) := by decide +kernel
theorem dX7_hasRun_0 : decode cX7_hasRun 0 = .ok (.iload_n 2, 1) := by decide +kernel
theorem dX7_hasRun_1 : decode cX7_hasRun 1 = .ok (.ifCond .lt 33, 3) := by decide +kernel
theorem dX7_hasRun_4 : decode cX7_hasRun 4 = .ok (.iload_n 3, 1) := by decide +kernel
theorem dX7_hasRun_5 : decode cX7_hasRun 5 = .ok (.ifCond .lt 29, 3) := by decide +kernel
theorem dX7_hasRun_8 : decode cX7_hasRun 8 = .ok (.iload_n 2, 1) := by decide +kernel
theorem dX7_hasRun_9 : decode cX7_hasRun 9 = .ok (.aload_n 0, 1) := by decide +kernel
theorem dX7_hasRun_10 : decode cX7_hasRun 10 = .ok (.getfield 15, 3) := by decide +kernel
theorem dX7_hasRun_13 : decode cX7_hasRun 13 = .ok (.iload_n 1, 1) := by decide +kernel
theorem dX7_hasRun_14 : decode cX7_hasRun 14 = .ok (.iaload, 1) := by decide +kernel
theorem dX7_hasRun_15 : decode cX7_hasRun 15 = .ok (.if_icmp .gt 19, 3) := by decide +kernel
theorem dX7_hasRun_18 : decode cX7_hasRun 18 = .ok (.iload_n 3, 1) := by decide +kernel
theorem dX7_hasRun_19 : decode cX7_hasRun 19 = .ok (.aload_n 0, 1) := by decide +kernel
theorem dX7_hasRun_20 : decode cX7_hasRun 20 = .ok (.getfield 15, 3) := by decide +kernel
theorem dX7_hasRun_23 : decode cX7_hasRun 23 = .ok (.iload_n 1, 1) := by decide +kernel
theorem dX7_hasRun_24 : decode cX7_hasRun 24 = .ok (.iaload, 1) := by decide +kernel
theorem dX7_hasRun_25 : decode cX7_hasRun 25 = .ok (.iload_n 2, 1) := by decide +kernel
theorem dX7_hasRun_26 : decode cX7_hasRun 26 = .ok (.isub, 1) := by decide +kernel
theorem dX7_hasRun_27 : decode cX7_hasRun 27 = .ok (.if_icmp .gt 7, 3) := by decide +kernel
theorem dX7_hasRun_30 : decode cX7_hasRun 30 = .ok (.iconst 1, 1) := by decide +kernel
theorem dX7_hasRun_31 : decode cX7_hasRun 31 = .ok (.goto 4, 3) := by decide +kernel
theorem dX7_hasRun_34 : decode cX7_hasRun 34 = .ok (.iconst 0, 1) := by decide +kernel
theorem dX7_hasRun_35 : decode cX7_hasRun 35 = .ok (.ireturn, 1) := by decide +kernel
theorem dX7_itemOf_0 : decode cX7_itemOf 0 = .ok (.aload_n 0, 1) := by decide +kernel
theorem dX7_itemOf_1 : decode cX7_itemOf 1 = .ok (.iload_n 1, 1) := by decide +kernel
theorem dX7_itemOf_2 : decode cX7_itemOf 2 = .ok (.iload_n 2, 1) := by decide +kernel
theorem dX7_itemOf_3 : decode cX7_itemOf 3 = .ok (.invokevirtual 21, 3) := by decide +kernel
theorem dX7_itemOf_6 : decode cX7_itemOf 6 = .ok (.ifCond .eq 17, 3) := by decide +kernel
theorem dX7_itemOf_9 : decode cX7_itemOf 9 = .ok (.aload_n 0, 1) := by decide +kernel
theorem dX7_itemOf_10 : decode cX7_itemOf 10 = .ok (.getfield 18, 3) := by decide +kernel
theorem dX7_itemOf_13 : decode cX7_itemOf 13 = .ok (.iload_n 1, 1) := by decide +kernel
theorem dX7_itemOf_14 : decode cX7_itemOf 14 = .ok (.bipush 40, 2) := by decide +kernel
theorem dX7_itemOf_16 : decode cX7_itemOf 16 = .ok (.imul, 1) := by decide +kernel
theorem dX7_itemOf_17 : decode cX7_itemOf 17 = .ok (.iload_n 2, 1) := by decide +kernel
theorem dX7_itemOf_18 : decode cX7_itemOf 18 = .ok (.iadd, 1) := by decide +kernel
theorem dX7_itemOf_19 : decode cX7_itemOf 19 = .ok (.iaload, 1) := by decide +kernel
theorem dX7_itemOf_20 : decode cX7_itemOf 20 = .ok (.goto 4, 3) := by decide +kernel
theorem dX7_itemOf_23 : decode cX7_itemOf 23 = .ok (.iconst 0, 1) := by decide +kernel
theorem dX7_itemOf_24 : decode cX7_itemOf 24 = .ok (.ireturn, 1) := by decide +kernel
theorem dX7_layOut_0 : decode cX7_layOut 0 = .ok (.aload_n 0, 1) := by decide +kernel
theorem dX7_layOut_1 : decode cX7_layOut 1 = .ok (.getfield 9, 3) := by decide +kernel
theorem dX7_layOut_4 : decode cX7_layOut 4 = .ok (.iload_n 1, 1) := by decide +kernel
theorem dX7_layOut_5 : decode cX7_layOut 5 = .ok (.iload_n 2, 1) := by decide +kernel
theorem dX7_layOut_6 : decode cX7_layOut 6 = .ok (.iastore, 1) := by decide +kernel
theorem dX7_layOut_7 : decode cX7_layOut 7 = .ok (.aload_n 0, 1) := by decide +kernel
theorem dX7_layOut_8 : decode cX7_layOut 8 = .ok (.getfield 15, 3) := by decide +kernel
theorem dX7_layOut_11 : decode cX7_layOut 11 = .ok (.iload_n 1, 1) := by decide +kernel
theorem dX7_layOut_12 : decode cX7_layOut 12 = .ok (.iload_n 3, 1) := by decide +kernel
theorem dX7_layOut_13 : decode cX7_layOut 13 = .ok (.iastore, 1) := by decide +kernel
theorem dX7_layOut_14 : decode cX7_layOut 14 = .ok (.iconst 0, 1) := by decide +kernel
theorem dX7_layOut_15 : decode cX7_layOut 15 = .ok (.istore 4, 2) := by decide +kernel
theorem dX7_layOut_17 : decode cX7_layOut 17 = .ok (.iload 4, 2) := by decide +kernel
theorem dX7_layOut_19 : decode cX7_layOut 19 = .ok (.bipush 40, 2) := by decide +kernel
theorem dX7_layOut_21 : decode cX7_layOut 21 = .ok (.if_icmp .ge 22, 3) := by decide +kernel
theorem dX7_layOut_24 : decode cX7_layOut 24 = .ok (.aload_n 0, 1) := by decide +kernel
theorem dX7_layOut_25 : decode cX7_layOut 25 = .ok (.getfield 18, 3) := by decide +kernel
theorem dX7_layOut_28 : decode cX7_layOut 28 = .ok (.iload_n 1, 1) := by decide +kernel
theorem dX7_layOut_29 : decode cX7_layOut 29 = .ok (.bipush 40, 2) := by decide +kernel
theorem dX7_layOut_31 : decode cX7_layOut 31 = .ok (.imul, 1) := by decide +kernel
theorem dX7_layOut_32 : decode cX7_layOut 32 = .ok (.iload 4, 2) := by decide +kernel
theorem dX7_layOut_34 : decode cX7_layOut 34 = .ok (.iadd, 1) := by decide +kernel
theorem dX7_layOut_35 : decode cX7_layOut 35 = .ok (.iconst 0, 1) := by decide +kernel
theorem dX7_layOut_36 : decode cX7_layOut 36 = .ok (.iastore, 1) := by decide +kernel
theorem dX7_layOut_37 : decode cX7_layOut 37 = .ok (.iinc 4 1, 3) := by decide +kernel
theorem dX7_layOut_40 : decode cX7_layOut 40 = .ok (.goto (-23), 3) := by decide +kernel
theorem dX7_layOut_43 : decode cX7_layOut 43 = .ok (.return_, 1) := by decide +kernel
theorem dX7_put_0 : decode cX7_put 0 = .ok (.iload_n 3, 1) := by decide +kernel
theorem dX7_put_1 : decode cX7_put 1 = .ok (.istore 4, 2) := by decide +kernel
theorem dX7_put_3 : decode cX7_put 3 = .ok (.aload_n 0, 1) := by decide +kernel
theorem dX7_put_4 : decode cX7_put 4 = .ok (.getfield 9, 3) := by decide +kernel
theorem dX7_put_7 : decode cX7_put 7 = .ok (.iload_n 1, 1) := by decide +kernel
theorem dX7_put_8 : decode cX7_put 8 = .ok (.iaload, 1) := by decide +kernel
theorem dX7_put_9 : decode cX7_put 9 = .ok (.ifCond .ne 10, 3) := by decide +kernel
theorem dX7_put_12 : decode cX7_put 12 = .ok (.iload_n 3, 1) := by decide +kernel
theorem dX7_put_13 : decode cX7_put 13 = .ok (.i2b, 1) := by decide +kernel
theorem dX7_put_14 : decode cX7_put 14 = .ok (.istore 4, 2) := by decide +kernel
theorem dX7_put_16 : decode cX7_put 16 = .ok (.goto 17, 3) := by decide +kernel
theorem dX7_put_19 : decode cX7_put 19 = .ok (.aload_n 0, 1) := by decide +kernel
theorem dX7_put_20 : decode cX7_put 20 = .ok (.getfield 9, 3) := by decide +kernel
theorem dX7_put_23 : decode cX7_put 23 = .ok (.iload_n 1, 1) := by decide +kernel
theorem dX7_put_24 : decode cX7_put 24 = .ok (.iaload, 1) := by decide +kernel
theorem dX7_put_25 : decode cX7_put 25 = .ok (.iconst 1, 1) := by decide +kernel
theorem dX7_put_26 : decode cX7_put 26 = .ok (.if_icmp .ne 7, 3) := by decide +kernel
theorem dX7_put_29 : decode cX7_put 29 = .ok (.iload_n 3, 1) := by decide +kernel
theorem dX7_put_30 : decode cX7_put 30 = .ok (.i2s, 1) := by decide +kernel
theorem dX7_put_31 : decode cX7_put 31 = .ok (.istore 4, 2) := by decide +kernel
theorem dX7_put_33 : decode cX7_put 33 = .ok (.aload_n 0, 1) := by decide +kernel
theorem dX7_put_34 : decode cX7_put 34 = .ok (.getfield 18, 3) := by decide +kernel
theorem dX7_put_37 : decode cX7_put 37 = .ok (.iload_n 1, 1) := by decide +kernel
theorem dX7_put_38 : decode cX7_put 38 = .ok (.bipush 40, 2) := by decide +kernel
theorem dX7_put_40 : decode cX7_put 40 = .ok (.imul, 1) := by decide +kernel
theorem dX7_put_41 : decode cX7_put 41 = .ok (.iload_n 2, 1) := by decide +kernel
theorem dX7_put_42 : decode cX7_put 42 = .ok (.iadd, 1) := by decide +kernel
theorem dX7_put_43 : decode cX7_put 43 = .ok (.iload 4, 2) := by decide +kernel
theorem dX7_put_45 : decode cX7_put 45 = .ok (.iastore, 1) := by decide +kernel
theorem dX7_put_46 : decode cX7_put 46 = .ok (.return_, 1) := by decide +kernel
theorem dX7_refusalAsWidths_0 : decode cX7_refusalAsWidths 0 = .ok (.aload_n 0, 1) := by decide +kernel
theorem dX7_refusalAsWidths_1 : decode cX7_refusalAsWidths 1 = .ok (.iload_n 1, 1) := by decide +kernel
theorem dX7_refusalAsWidths_2 : decode cX7_refusalAsWidths 2 = .ok (.invokevirtual 25, 3) := by decide +kernel
theorem dX7_refusalAsWidths_5 : decode cX7_refusalAsWidths 5 = .ok (.ifCond .eq 6, 3) := by decide +kernel
theorem dX7_refusalAsWidths_8 : decode cX7_refusalAsWidths 8 = .ok (.bipush (-11), 2) := by decide +kernel
theorem dX7_refusalAsWidths_10 : decode cX7_refusalAsWidths 10 = .ok (.ireturn, 1) := by decide +kernel
theorem dX7_refusalAsWidths_11 : decode cX7_refusalAsWidths 11 = .ok (.aload_n 0, 1) := by decide +kernel
theorem dX7_refusalAsWidths_12 : decode cX7_refusalAsWidths 12 = .ok (.getfield 15, 3) := by decide +kernel
theorem dX7_refusalAsWidths_15 : decode cX7_refusalAsWidths 15 = .ok (.iload_n 1, 1) := by decide +kernel
theorem dX7_refusalAsWidths_16 : decode cX7_refusalAsWidths 16 = .ok (.iaload, 1) := by decide +kernel
theorem dX7_refusalAsWidths_17 : decode cX7_refusalAsWidths 17 = .ok (.iconst 1, 1) := by decide +kernel
theorem dX7_refusalAsWidths_18 : decode cX7_refusalAsWidths 18 = .ok (.bipush 8, 2) := by decide +kernel
theorem dX7_refusalAsWidths_20 : decode cX7_refusalAsWidths 20 = .ok (.invokestatic 29, 3) := by decide +kernel
theorem dX7_refusalAsWidths_23 : decode cX7_refusalAsWidths 23 = .ok (.ifCond .ne 6, 3) := by decide +kernel
theorem dX7_refusalAsWidths_26 : decode cX7_refusalAsWidths 26 = .ok (.bipush (-2), 2) := by decide +kernel
theorem dX7_refusalAsWidths_28 : decode cX7_refusalAsWidths 28 = .ok (.ireturn, 1) := by decide +kernel
theorem dX7_refusalAsWidths_29 : decode cX7_refusalAsWidths 29 = .ok (.iconst 0, 1) := by decide +kernel
theorem dX7_refusalAsWidths_30 : decode cX7_refusalAsWidths 30 = .ok (.istore_n 2, 1) := by decide +kernel
theorem dX7_refusalAsWidths_31 : decode cX7_refusalAsWidths 31 = .ok (.iload_n 2, 1) := by decide +kernel
theorem dX7_refusalAsWidths_32 : decode cX7_refusalAsWidths 32 = .ok (.aload_n 0, 1) := by decide +kernel
theorem dX7_refusalAsWidths_33 : decode cX7_refusalAsWidths 33 = .ok (.getfield 15, 3) := by decide +kernel
theorem dX7_refusalAsWidths_36 : decode cX7_refusalAsWidths 36 = .ok (.iload_n 1, 1) := by decide +kernel
theorem dX7_refusalAsWidths_37 : decode cX7_refusalAsWidths 37 = .ok (.iaload, 1) := by decide +kernel
theorem dX7_refusalAsWidths_38 : decode cX7_refusalAsWidths 38 = .ok (.if_icmp .ge 24, 3) := by decide +kernel
theorem dX7_refusalAsWidths_41 : decode cX7_refusalAsWidths 41 = .ok (.aload_n 0, 1) := by decide +kernel
theorem dX7_refusalAsWidths_42 : decode cX7_refusalAsWidths 42 = .ok (.iload_n 1, 1) := by decide +kernel
theorem dX7_refusalAsWidths_43 : decode cX7_refusalAsWidths 43 = .ok (.iload_n 2, 1) := by decide +kernel
theorem dX7_refusalAsWidths_44 : decode cX7_refusalAsWidths 44 = .ok (.invokevirtual 33, 3) := by decide +kernel
theorem dX7_refusalAsWidths_47 : decode cX7_refusalAsWidths 47 = .ok (.invokestatic 37, 3) := by decide +kernel
theorem dX7_refusalAsWidths_50 : decode cX7_refusalAsWidths 50 = .ok (.ifCond .ne 6, 3) := by decide +kernel
theorem dX7_refusalAsWidths_53 : decode cX7_refusalAsWidths 53 = .ok (.bipush (-2), 2) := by decide +kernel
theorem dX7_refusalAsWidths_55 : decode cX7_refusalAsWidths 55 = .ok (.ireturn, 1) := by decide +kernel
theorem dX7_refusalAsWidths_56 : decode cX7_refusalAsWidths 56 = .ok (.iinc 2 1, 3) := by decide +kernel
theorem dX7_refusalAsWidths_59 : decode cX7_refusalAsWidths 59 = .ok (.goto (-28), 3) := by decide +kernel
theorem dX7_refusalAsWidths_62 : decode cX7_refusalAsWidths 62 = .ok (.iconst 0, 1) := by decide +kernel
theorem dX7_refusalAsWidths_63 : decode cX7_refusalAsWidths 63 = .ok (.ireturn, 1) := by decide +kernel
theorem dX8_init_0 : decode cX8_init 0 = .ok (.aload_n 0, 1) := by decide +kernel
theorem dX8_init_1 : decode cX8_init 1 = .ok (.invokespecial 3, 3) := by decide +kernel
theorem dX8_init_4 : decode cX8_init 4 = .ok (.aload_n 0, 1) := by decide +kernel
theorem dX8_init_5 : decode cX8_init 5 = .ok (.bipush 10, 2) := by decide +kernel
theorem dX8_init_7 : decode cX8_init 7 = .ok (.newarray .int, 2) := by decide +kernel
theorem dX8_init_9 : decode cX8_init 9 = .ok (.putfield 9, 3) := by decide +kernel
theorem dX8_init_12 : decode cX8_init 12 = .ok (.aload_n 0, 1) := by decide +kernel
theorem dX8_init_13 : decode cX8_init 13 = .ok (.bipush 10, 2) := by decide +kernel
theorem dX8_init_15 : decode cX8_init 15 = .ok (.newarray .int, 2) := by decide +kernel
theorem dX8_init_17 : decode cX8_init 17 = .ok (.putfield 15, 3) := by decide +kernel
theorem dX8_init_20 : decode cX8_init 20 = .ok (.aload_n 0, 1) := by decide +kernel
theorem dX8_init_21 : decode cX8_init 21 = .ok (.bipush 10, 2) := by decide +kernel
theorem dX8_init_23 : decode cX8_init 23 = .ok (.newarray .int, 2) := by decide +kernel
theorem dX8_init_25 : decode cX8_init 25 = .ok (.putfield 18, 3) := by decide +kernel
theorem dX8_init_28 : decode cX8_init 28 = .ok (.aload_n 0, 1) := by decide +kernel
theorem dX8_init_29 : decode cX8_init 29 = .ok (.bipush 40, 2) := by decide +kernel
theorem dX8_init_31 : decode cX8_init 31 = .ok (.newarray .int, 2) := by decide +kernel
theorem dX8_init_33 : decode cX8_init 33 = .ok (.putfield 21, 3) := by decide +kernel
theorem dX8_init_36 : decode cX8_init 36 = .ok (.return_, 1) := by decide +kernel
theorem dX8_has_0 : decode cX8_has 0 = .ok (.iload_n 1, 1) := by decide +kernel
theorem dX8_has_1 : decode cX8_has 1 = .ok (.ifCond .lt 15, 3) := by decide +kernel
theorem dX8_has_4 : decode cX8_has 4 = .ok (.iload_n 1, 1) := by decide +kernel
theorem dX8_has_5 : decode cX8_has 5 = .ok (.aload_n 0, 1) := by decide +kernel
theorem dX8_has_6 : decode cX8_has 6 = .ok (.getfield 24, 3) := by decide +kernel
theorem dX8_has_9 : decode cX8_has 9 = .ok (.if_icmp .ge 7, 3) := by decide +kernel
theorem dX8_has_12 : decode cX8_has 12 = .ok (.iconst 1, 1) := by decide +kernel
theorem dX8_has_13 : decode cX8_has 13 = .ok (.goto 4, 3) := by decide +kernel
theorem dX8_has_16 : decode cX8_has 16 = .ok (.iconst 0, 1) := by decide +kernel
theorem dX8_has_17 : decode cX8_has 17 = .ok (.ireturn, 1) := by decide +kernel
theorem dX8_add_0 : decode cX8_add 0 = .ok (.iload_n 1, 1) := by decide +kernel
theorem dX8_add_1 : decode cX8_add 1 = .ok (.invokestatic 28, 3) := by decide +kernel
theorem dX8_add_4 : decode cX8_add 4 = .ok (.ifCond .eq 17, 3) := by decide +kernel
theorem dX8_add_7 : decode cX8_add 7 = .ok (.iload_n 2, 1) := by decide +kernel
theorem dX8_add_8 : decode cX8_add 8 = .ok (.invokestatic 32, 3) := by decide +kernel
theorem dX8_add_11 : decode cX8_add 11 = .ok (.ifCond .eq 10, 3) := by decide +kernel
theorem dX8_add_14 : decode cX8_add 14 = .ok (.iload_n 3, 1) := by decide +kernel
theorem dX8_add_15 : decode cX8_add 15 = .ok (.invokestatic 35, 3) := by decide +kernel
theorem dX8_add_18 : decode cX8_add 18 = .ok (.ifCond .ne 6, 3) := by decide +kernel
theorem dX8_add_21 : decode cX8_add 21 = .ok (.bipush (-2), 2) := by decide +kernel
theorem dX8_add_23 : decode cX8_add 23 = .ok (.ireturn, 1) := by decide +kernel
theorem dX8_add_24 : decode cX8_add 24 = .ok (.aload_n 0, 1) := by decide +kernel
theorem dX8_add_25 : decode cX8_add 25 = .ok (.getfield 24, 3) := by decide +kernel
theorem dX8_add_28 : decode cX8_add 28 = .ok (.bipush 10, 2) := by decide +kernel
theorem dX8_add_30 : decode cX8_add 30 = .ok (.if_icmp .lt 6, 3) := by decide +kernel
theorem dX8_add_33 : decode cX8_add 33 = .ok (.bipush (-4), 2) := by decide +kernel
theorem dX8_add_35 : decode cX8_add 35 = .ok (.ireturn, 1) := by decide +kernel
theorem dX8_add_36 : decode cX8_add 36 = .ok (.aload_n 0, 1) := by decide +kernel
theorem dX8_add_37 : decode cX8_add 37 = .ok (.getfield 9, 3) := by decide +kernel
theorem dX8_add_40 : decode cX8_add 40 = .ok (.aload_n 0, 1) := by decide +kernel
theorem dX8_add_41 : decode cX8_add 41 = .ok (.getfield 24, 3) := by decide +kernel
theorem dX8_add_44 : decode cX8_add 44 = .ok (.iload_n 1, 1) := by decide +kernel
theorem dX8_add_45 : decode cX8_add 45 = .ok (.iastore, 1) := by decide +kernel
theorem dX8_add_46 : decode cX8_add 46 = .ok (.aload_n 0, 1) := by decide +kernel
theorem dX8_add_47 : decode cX8_add 47 = .ok (.getfield 15, 3) := by decide +kernel
theorem dX8_add_50 : decode cX8_add 50 = .ok (.aload_n 0, 1) := by decide +kernel
theorem dX8_add_51 : decode cX8_add 51 = .ok (.getfield 24, 3) := by decide +kernel
theorem dX8_add_54 : decode cX8_add 54 = .ok (.iload_n 2, 1) := by decide +kernel
theorem dX8_add_55 : decode cX8_add 55 = .ok (.iastore, 1) := by decide +kernel
theorem dX8_add_56 : decode cX8_add 56 = .ok (.aload_n 0, 1) := by decide +kernel
theorem dX8_add_57 : decode cX8_add 57 = .ok (.getfield 18, 3) := by decide +kernel
theorem dX8_add_60 : decode cX8_add 60 = .ok (.aload_n 0, 1) := by decide +kernel
theorem dX8_add_61 : decode cX8_add 61 = .ok (.getfield 24, 3) := by decide +kernel
theorem dX8_add_64 : decode cX8_add 64 = .ok (.iload_n 3, 1) := by decide +kernel
theorem dX8_add_65 : decode cX8_add 65 = .ok (.iastore, 1) := by decide +kernel
theorem dX8_add_66 : decode cX8_add 66 = .ok (.aload_n 0, 1) := by decide +kernel
theorem dX8_add_67 : decode cX8_add 67 = .ok (.dup, 1) := by decide +kernel
theorem dX8_add_68 : decode cX8_add 68 = .ok (.getfield 24, 3) := by decide +kernel
theorem dX8_add_71 : decode cX8_add 71 = .ok (.iconst 1, 1) := by decide +kernel
theorem dX8_add_72 : decode cX8_add 72 = .ok (.iadd, 1) := by decide +kernel
theorem dX8_add_73 : decode cX8_add 73 = .ok (.putfield 24, 3) := by decide +kernel
theorem dX8_add_76 : decode cX8_add 76 = .ok (.aload_n 0, 1) := by decide +kernel
theorem dX8_add_77 : decode cX8_add 77 = .ok (.getfield 24, 3) := by decide +kernel
theorem dX8_add_80 : decode cX8_add 80 = .ok (.iconst 1, 1) := by decide +kernel
theorem dX8_add_81 : decode cX8_add 81 = .ok (.isub, 1) := by decide +kernel
theorem dX8_add_82 : decode cX8_add 82 = .ok (.ireturn, 1) := by decide +kernel
theorem dX8_offOf_0 : decode cX8_offOf 0 = .ok (.iload_n 1, 1) := by decide +kernel
theorem dX8_offOf_1 : decode cX8_offOf 1 = .ok (.iconst 4, 1) := by decide +kernel
theorem dX8_offOf_2 : decode cX8_offOf 2 = .ok (.imul, 1) := by decide +kernel
theorem dX8_offOf_3 : decode cX8_offOf 3 = .ok (.iload_n 2, 1) := by decide +kernel
theorem dX8_offOf_4 : decode cX8_offOf 4 = .ok (.iadd, 1) := by decide +kernel
theorem dX8_offOf_5 : decode cX8_offOf 5 = .ok (.istore_n 3, 1) := by decide +kernel
theorem dX8_offOf_6 : decode cX8_offOf 6 = .ok (.iload_n 3, 1) := by decide +kernel
theorem dX8_offOf_7 : decode cX8_offOf 7 = .ok (.ifCond .lt 18, 3) := by decide +kernel
theorem dX8_offOf_10 : decode cX8_offOf 10 = .ok (.iload_n 3, 1) := by decide +kernel
theorem dX8_offOf_11 : decode cX8_offOf 11 = .ok (.bipush 40, 2) := by decide +kernel
theorem dX8_offOf_13 : decode cX8_offOf 13 = .ok (.if_icmp .ge 12, 3) := by decide +kernel
theorem dX8_offOf_16 : decode cX8_offOf 16 = .ok (.aload_n 0, 1) := by decide +kernel
theorem dX8_offOf_17 : decode cX8_offOf 17 = .ok (.getfield 21, 3) := by decide +kernel
theorem dX8_offOf_20 : decode cX8_offOf 20 = .ok (.iload_n 3, 1) := by decide +kernel
theorem dX8_offOf_21 : decode cX8_offOf 21 = .ok (.iaload, 1) := by decide +kernel
theorem dX8_offOf_22 : decode cX8_offOf 22 = .ok (.goto 4, 3) := by decide +kernel
theorem dX8_offOf_25 : decode cX8_offOf 25 = .ok (.iconst 0, 1) := by decide +kernel
theorem dX8_offOf_26 : decode cX8_offOf 26 = .ok (.ireturn, 1) := by decide +kernel
theorem dX8_takeMenOf_0 : decode cX8_takeMenOf 0 = .ok (.iconst 0, 1) := by decide +kernel
theorem dX8_takeMenOf_1 : decode cX8_takeMenOf 1 = .ok (.istore_n 2, 1) := by decide +kernel
theorem dX8_takeMenOf_2 : decode cX8_takeMenOf 2 = .ok (.iload_n 2, 1) := by decide +kernel
theorem dX8_takeMenOf_3 : decode cX8_takeMenOf 3 = .ok (.aload_n 1, 1) := by decide +kernel
theorem dX8_takeMenOf_4 : decode cX8_takeMenOf 4 = .ok (.getfield 24, 3) := by decide +kernel
theorem dX8_takeMenOf_7 : decode cX8_takeMenOf 7 = .ok (.if_icmp .ge 70, 3) := by decide +kernel
theorem dX8_takeMenOf_10 : decode cX8_takeMenOf 10 = .ok (.iload_n 2, 1) := by decide +kernel
theorem dX8_takeMenOf_11 : decode cX8_takeMenOf 11 = .ok (.bipush 10, 2) := by decide +kernel
theorem dX8_takeMenOf_13 : decode cX8_takeMenOf 13 = .ok (.if_icmp .ge 64, 3) := by decide +kernel
theorem dX8_takeMenOf_16 : decode cX8_takeMenOf 16 = .ok (.aload_n 0, 1) := by decide +kernel
theorem dX8_takeMenOf_17 : decode cX8_takeMenOf 17 = .ok (.getfield 15, 3) := by decide +kernel
theorem dX8_takeMenOf_20 : decode cX8_takeMenOf 20 = .ok (.iload_n 2, 1) := by decide +kernel
theorem dX8_takeMenOf_21 : decode cX8_takeMenOf 21 = .ok (.aload_n 1, 1) := by decide +kernel
theorem dX8_takeMenOf_22 : decode cX8_takeMenOf 22 = .ok (.getfield 15, 3) := by decide +kernel
theorem dX8_takeMenOf_25 : decode cX8_takeMenOf 25 = .ok (.iload_n 2, 1) := by decide +kernel
theorem dX8_takeMenOf_26 : decode cX8_takeMenOf 26 = .ok (.iaload, 1) := by decide +kernel
theorem dX8_takeMenOf_27 : decode cX8_takeMenOf 27 = .ok (.iastore, 1) := by decide +kernel
theorem dX8_takeMenOf_28 : decode cX8_takeMenOf 28 = .ok (.aload_n 0, 1) := by decide +kernel
theorem dX8_takeMenOf_29 : decode cX8_takeMenOf 29 = .ok (.getfield 18, 3) := by decide +kernel
theorem dX8_takeMenOf_32 : decode cX8_takeMenOf 32 = .ok (.iload_n 2, 1) := by decide +kernel
theorem dX8_takeMenOf_33 : decode cX8_takeMenOf 33 = .ok (.aload_n 1, 1) := by decide +kernel
theorem dX8_takeMenOf_34 : decode cX8_takeMenOf 34 = .ok (.getfield 18, 3) := by decide +kernel
theorem dX8_takeMenOf_37 : decode cX8_takeMenOf 37 = .ok (.iload_n 2, 1) := by decide +kernel
theorem dX8_takeMenOf_38 : decode cX8_takeMenOf 38 = .ok (.iaload, 1) := by decide +kernel
theorem dX8_takeMenOf_39 : decode cX8_takeMenOf 39 = .ok (.iastore, 1) := by decide +kernel
theorem dX8_takeMenOf_40 : decode cX8_takeMenOf 40 = .ok (.iload_n 2, 1) := by decide +kernel
theorem dX8_takeMenOf_41 : decode cX8_takeMenOf 41 = .ok (.iconst 4, 1) := by decide +kernel
theorem dX8_takeMenOf_42 : decode cX8_takeMenOf 42 = .ok (.imul, 1) := by decide +kernel
theorem dX8_takeMenOf_43 : decode cX8_takeMenOf 43 = .ok (.istore_n 3, 1) := by decide +kernel
theorem dX8_takeMenOf_44 : decode cX8_takeMenOf 44 = .ok (.iload_n 3, 1) := by decide +kernel
theorem dX8_takeMenOf_45 : decode cX8_takeMenOf 45 = .ok (.iload_n 2, 1) := by decide +kernel
theorem dX8_takeMenOf_46 : decode cX8_takeMenOf 46 = .ok (.iconst 4, 1) := by decide +kernel
theorem dX8_takeMenOf_47 : decode cX8_takeMenOf 47 = .ok (.imul, 1) := by decide +kernel
theorem dX8_takeMenOf_48 : decode cX8_takeMenOf 48 = .ok (.iconst 4, 1) := by decide +kernel
theorem dX8_takeMenOf_49 : decode cX8_takeMenOf 49 = .ok (.iadd, 1) := by decide +kernel
theorem dX8_takeMenOf_50 : decode cX8_takeMenOf 50 = .ok (.if_icmp .ge 21, 3) := by decide +kernel
theorem dX8_takeMenOf_53 : decode cX8_takeMenOf 53 = .ok (.aload_n 0, 1) := by decide +kernel
theorem dX8_takeMenOf_54 : decode cX8_takeMenOf 54 = .ok (.getfield 21, 3) := by decide +kernel
theorem dX8_takeMenOf_57 : decode cX8_takeMenOf 57 = .ok (.iload_n 3, 1) := by decide +kernel
theorem dX8_takeMenOf_58 : decode cX8_takeMenOf 58 = .ok (.aload_n 1, 1) := by decide +kernel
theorem dX8_takeMenOf_59 : decode cX8_takeMenOf 59 = .ok (.getfield 21, 3) := by decide +kernel
theorem dX8_takeMenOf_62 : decode cX8_takeMenOf 62 = .ok (.iload_n 3, 1) := by decide +kernel
theorem dX8_takeMenOf_63 : decode cX8_takeMenOf 63 = .ok (.iaload, 1) := by decide +kernel
theorem dX8_takeMenOf_64 : decode cX8_takeMenOf 64 = .ok (.iastore, 1) := by decide +kernel
theorem dX8_takeMenOf_65 : decode cX8_takeMenOf 65 = .ok (.iinc 3 1, 3) := by decide +kernel
theorem dX8_takeMenOf_68 : decode cX8_takeMenOf 68 = .ok (.goto (-24), 3) := by decide +kernel
theorem dX8_takeMenOf_71 : decode cX8_takeMenOf 71 = .ok (.iinc 2 1, 3) := by decide +kernel
theorem dX8_takeMenOf_74 : decode cX8_takeMenOf 74 = .ok (.goto (-72), 3) := by decide +kernel
theorem dX8_takeMenOf_77 : decode cX8_takeMenOf 77 = .ok (.return_, 1) := by decide +kernel
theorem dX9_init_0 : decode cX9_init 0 = .ok (.aload_n 0, 1) := by decide +kernel
theorem dX9_init_1 : decode cX9_init 1 = .ok (.invokespecial 3, 3) := by decide +kernel
theorem dX9_init_4 : decode cX9_init 4 = .ok (.aload_n 0, 1) := by decide +kernel
theorem dX9_init_5 : decode cX9_init 5 = .ok (.sipush 160, 3) := by decide +kernel
theorem dX9_init_8 : decode cX9_init 8 = .ok (.newarray .int, 2) := by decide +kernel
theorem dX9_init_10 : decode cX9_init 10 = .ok (.putfield 9, 3) := by decide +kernel
theorem dX9_init_13 : decode cX9_init 13 = .ok (.aload_n 0, 1) := by decide +kernel
theorem dX9_init_14 : decode cX9_init 14 = .ok (.sipush 161, 3) := by decide +kernel
theorem dX9_init_17 : decode cX9_init 17 = .ok (.newarray .int, 2) := by decide +kernel
theorem dX9_init_19 : decode cX9_init 19 = .ok (.putfield 15, 3) := by decide +kernel
theorem dX9_init_22 : decode cX9_init 22 = .ok (.aload_n 0, 1) := by decide +kernel
theorem dX9_init_23 : decode cX9_init 23 = .ok (.sipush 161, 3) := by decide +kernel
theorem dX9_init_26 : decode cX9_init 26 = .ok (.newarray .int, 2) := by decide +kernel
theorem dX9_init_28 : decode cX9_init 28 = .ok (.putfield 18, 3) := by decide +kernel
theorem dX9_init_31 : decode cX9_init 31 = .ok (.aload_n 0, 1) := by decide +kernel
theorem dX9_init_32 : decode cX9_init 32 = .ok (.sipush 161, 3) := by decide +kernel
theorem dX9_init_35 : decode cX9_init 35 = .ok (.newarray .int, 2) := by decide +kernel
theorem dX9_init_37 : decode cX9_init 37 = .ok (.putfield 21, 3) := by decide +kernel
theorem dX9_init_40 : decode cX9_init 40 = .ok (.return_, 1) := by decide +kernel
theorem dX9_put_0 : decode cX9_put 0 = .ok (.aload_n 0, 1) := by decide +kernel
theorem dX9_put_1 : decode cX9_put 1 = .ok (.getfield 24, 3) := by decide +kernel
theorem dX9_put_4 : decode cX9_put 4 = .ok (.sipush 160, 3) := by decide +kernel
theorem dX9_put_7 : decode cX9_put 7 = .ok (.if_icmp .ge 23, 3) := by decide +kernel
theorem dX9_put_10 : decode cX9_put 10 = .ok (.aload_n 0, 1) := by decide +kernel
theorem dX9_put_11 : decode cX9_put 11 = .ok (.getfield 9, 3) := by decide +kernel
theorem dX9_put_14 : decode cX9_put 14 = .ok (.aload_n 0, 1) := by decide +kernel
theorem dX9_put_15 : decode cX9_put 15 = .ok (.getfield 24, 3) := by decide +kernel
theorem dX9_put_18 : decode cX9_put 18 = .ok (.iload_n 1, 1) := by decide +kernel
theorem dX9_put_19 : decode cX9_put 19 = .ok (.iastore, 1) := by decide +kernel
theorem dX9_put_20 : decode cX9_put 20 = .ok (.aload_n 0, 1) := by decide +kernel
theorem dX9_put_21 : decode cX9_put 21 = .ok (.dup, 1) := by decide +kernel
theorem dX9_put_22 : decode cX9_put 22 = .ok (.getfield 24, 3) := by decide +kernel
theorem dX9_put_25 : decode cX9_put 25 = .ok (.iconst 1, 1) := by decide +kernel
theorem dX9_put_26 : decode cX9_put 26 = .ok (.iadd, 1) := by decide +kernel
theorem dX9_put_27 : decode cX9_put 27 = .ok (.putfield 24, 3) := by decide +kernel
theorem dX9_put_30 : decode cX9_put 30 = .ok (.return_, 1) := by decide +kernel
theorem dX9_byteAt_0 : decode cX9_byteAt 0 = .ok (.iload_n 1, 1) := by decide +kernel
theorem dX9_byteAt_1 : decode cX9_byteAt 1 = .ok (.ifCond .lt 20, 3) := by decide +kernel
theorem dX9_byteAt_4 : decode cX9_byteAt 4 = .ok (.iload_n 1, 1) := by decide +kernel
theorem dX9_byteAt_5 : decode cX9_byteAt 5 = .ok (.aload_n 0, 1) := by decide +kernel
theorem dX9_byteAt_6 : decode cX9_byteAt 6 = .ok (.getfield 24, 3) := by decide +kernel
theorem dX9_byteAt_9 : decode cX9_byteAt 9 = .ok (.if_icmp .ge 12, 3) := by decide +kernel
theorem dX9_byteAt_12 : decode cX9_byteAt 12 = .ok (.aload_n 0, 1) := by decide +kernel
theorem dX9_byteAt_13 : decode cX9_byteAt 13 = .ok (.getfield 9, 3) := by decide +kernel
theorem dX9_byteAt_16 : decode cX9_byteAt 16 = .ok (.iload_n 1, 1) := by decide +kernel
theorem dX9_byteAt_17 : decode cX9_byteAt 17 = .ok (.iaload, 1) := by decide +kernel
theorem dX9_byteAt_18 : decode cX9_byteAt 18 = .ok (.goto 4, 3) := by decide +kernel
theorem dX9_byteAt_21 : decode cX9_byteAt 21 = .ok (.iconst (-1), 1) := by decide +kernel
theorem dX9_byteAt_22 : decode cX9_byteAt 22 = .ok (.ireturn, 1) := by decide +kernel
theorem dX9_cut_0 : decode cX9_cut 0 = .ok (.aload_n 0, 1) := by decide +kernel
theorem dX9_cut_1 : decode cX9_cut 1 = .ok (.iconst 0, 1) := by decide +kernel
theorem dX9_cut_2 : decode cX9_cut 2 = .ok (.putfield 28, 3) := by decide +kernel
theorem dX9_cut_5 : decode cX9_cut 5 = .ok (.iconst 0, 1) := by decide +kernel
theorem dX9_cut_6 : decode cX9_cut 6 = .ok (.istore_n 1, 1) := by decide +kernel
theorem dX9_cut_7 : decode cX9_cut 7 = .ok (.iconst 0, 1) := by decide +kernel
theorem dX9_cut_8 : decode cX9_cut 8 = .ok (.istore_n 2, 1) := by decide +kernel
theorem dX9_cut_9 : decode cX9_cut 9 = .ok (.iload_n 2, 1) := by decide +kernel
theorem dX9_cut_10 : decode cX9_cut 10 = .ok (.sipush 160, 3) := by decide +kernel
theorem dX9_cut_13 : decode cX9_cut 13 = .ok (.if_icmp .ge 95, 3) := by decide +kernel
theorem dX9_cut_16 : decode cX9_cut 16 = .ok (.iload_n 1, 1) := by decide +kernel
theorem dX9_cut_17 : decode cX9_cut 17 = .ok (.aload_n 0, 1) := by decide +kernel
theorem dX9_cut_18 : decode cX9_cut 18 = .ok (.getfield 24, 3) := by decide +kernel
theorem dX9_cut_21 : decode cX9_cut 21 = .ok (.if_icmp .ge 87, 3) := by decide +kernel
theorem dX9_cut_24 : decode cX9_cut 24 = .ok (.aload_n 0, 1) := by decide +kernel
theorem dX9_cut_25 : decode cX9_cut 25 = .ok (.iload_n 1, 1) := by decide +kernel
theorem dX9_cut_26 : decode cX9_cut 26 = .ok (.invokevirtual 31, 3) := by decide +kernel
theorem dX9_cut_29 : decode cX9_cut 29 = .ok (.istore_n 3, 1) := by decide +kernel
theorem dX9_cut_30 : decode cX9_cut 30 = .ok (.iload_n 3, 1) := by decide +kernel
theorem dX9_cut_31 : decode cX9_cut 31 = .ok (.bipush 32, 2) := by decide +kernel
theorem dX9_cut_33 : decode cX9_cut 33 = .ok (.if_icmp .eq 9, 3) := by decide +kernel
theorem dX9_cut_36 : decode cX9_cut 36 = .ok (.iload_n 3, 1) := by decide +kernel
theorem dX9_cut_37 : decode cX9_cut 37 = .ok (.bipush 10, 2) := by decide +kernel
theorem dX9_cut_39 : decode cX9_cut 39 = .ok (.if_icmp .ne 9, 3) := by decide +kernel
theorem dX9_cut_42 : decode cX9_cut 42 = .ok (.iinc 1 1, 3) := by decide +kernel
theorem dX9_cut_45 : decode cX9_cut 45 = .ok (.goto 57, 3) := by decide +kernel
theorem dX9_cut_48 : decode cX9_cut 48 = .ok (.iload_n 3, 1) := by decide +kernel
theorem dX9_cut_49 : decode cX9_cut 49 = .ok (.invokestatic 35, 3) := by decide +kernel
theorem dX9_cut_52 : decode cX9_cut 52 = .ok (.ifCond .eq 12, 3) := by decide +kernel
theorem dX9_cut_55 : decode cX9_cut 55 = .ok (.aload_n 0, 1) := by decide +kernel
theorem dX9_cut_56 : decode cX9_cut 56 = .ok (.iload_n 1, 1) := by decide +kernel
theorem dX9_cut_57 : decode cX9_cut 57 = .ok (.invokevirtual 39, 3) := by decide +kernel
theorem dX9_cut_60 : decode cX9_cut 60 = .ok (.istore_n 1, 1) := by decide +kernel
theorem dX9_cut_61 : decode cX9_cut 61 = .ok (.goto 41, 3) := by decide +kernel
theorem dX9_cut_64 : decode cX9_cut 64 = .ok (.iload_n 3, 1) := by decide +kernel
theorem dX9_cut_65 : decode cX9_cut 65 = .ok (.invokestatic 42, 3) := by decide +kernel
theorem dX9_cut_68 : decode cX9_cut 68 = .ok (.ifCond .eq 12, 3) := by decide +kernel
theorem dX9_cut_71 : decode cX9_cut 71 = .ok (.aload_n 0, 1) := by decide +kernel
theorem dX9_cut_72 : decode cX9_cut 72 = .ok (.iload_n 1, 1) := by decide +kernel
theorem dX9_cut_73 : decode cX9_cut 73 = .ok (.invokevirtual 45, 3) := by decide +kernel
theorem dX9_cut_76 : decode cX9_cut 76 = .ok (.istore_n 1, 1) := by decide +kernel
theorem dX9_cut_77 : decode cX9_cut 77 = .ok (.goto 25, 3) := by decide +kernel
theorem dX9_cut_80 : decode cX9_cut 80 = .ok (.aload_n 0, 1) := by decide +kernel
theorem dX9_cut_81 : decode cX9_cut 81 = .ok (.iload_n 3, 1) := by decide +kernel
theorem dX9_cut_82 : decode cX9_cut 82 = .ok (.invokestatic 48, 3) := by decide +kernel
theorem dX9_cut_85 : decode cX9_cut 85 = .ok (.ifCond .eq 7, 3) := by decide +kernel
theorem dX9_cut_88 : decode cX9_cut 88 = .ok (.iload_n 3, 1) := by decide +kernel
theorem dX9_cut_89 : decode cX9_cut 89 = .ok (.goto 5, 3) := by decide +kernel
theorem dX9_cut_92 : decode cX9_cut 92 = .ok (.bipush (-2), 2) := by decide +kernel
theorem dX9_cut_94 : decode cX9_cut 94 = .ok (.iconst 0, 1) := by decide +kernel
theorem dX9_cut_95 : decode cX9_cut 95 = .ok (.iload_n 1, 1) := by decide +kernel
theorem dX9_cut_96 : decode cX9_cut 96 = .ok (.invokevirtual 51, 3) := by decide +kernel
theorem dX9_cut_99 : decode cX9_cut 99 = .ok (.iinc 1 1, 3) := by decide +kernel
theorem dX9_cut_102 : decode cX9_cut 102 = .ok (.iinc 2 1, 3) := by decide +kernel
theorem dX9_cut_105 : decode cX9_cut 105 = .ok (.goto (-96), 3) := by decide +kernel
theorem dX9_cut_108 : decode cX9_cut 108 = .ok (.aload_n 0, 1) := by decide +kernel
theorem dX9_cut_109 : decode cX9_cut 109 = .ok (.iconst (-1), 1) := by decide +kernel
theorem dX9_cut_110 : decode cX9_cut 110 = .ok (.iconst 0, 1) := by decide +kernel
theorem dX9_cut_111 : decode cX9_cut 111 = .ok (.aload_n 0, 1) := by decide +kernel
theorem dX9_cut_112 : decode cX9_cut 112 = .ok (.getfield 24, 3) := by decide +kernel
theorem dX9_cut_115 : decode cX9_cut 115 = .ok (.invokevirtual 51, 3) := by decide +kernel
theorem dX9_cut_118 : decode cX9_cut 118 = .ok (.return_, 1) := by decide +kernel
theorem dX9_note_0 : decode cX9_note 0 = .ok (.aload_n 0, 1) := by decide +kernel
theorem dX9_note_1 : decode cX9_note 1 = .ok (.getfield 28, 3) := by decide +kernel
theorem dX9_note_4 : decode cX9_note 4 = .ok (.sipush 160, 3) := by decide +kernel
theorem dX9_note_7 : decode cX9_note 7 = .ok (.if_icmp .gt 43, 3) := by decide +kernel
theorem dX9_note_10 : decode cX9_note 10 = .ok (.aload_n 0, 1) := by decide +kernel
theorem dX9_note_11 : decode cX9_note 11 = .ok (.getfield 15, 3) := by decide +kernel
theorem dX9_note_14 : decode cX9_note 14 = .ok (.aload_n 0, 1) := by decide +kernel
theorem dX9_note_15 : decode cX9_note 15 = .ok (.getfield 28, 3) := by decide +kernel
theorem dX9_note_18 : decode cX9_note 18 = .ok (.iload_n 1, 1) := by decide +kernel
theorem dX9_note_19 : decode cX9_note 19 = .ok (.iastore, 1) := by decide +kernel
theorem dX9_note_20 : decode cX9_note 20 = .ok (.aload_n 0, 1) := by decide +kernel
theorem dX9_note_21 : decode cX9_note 21 = .ok (.getfield 18, 3) := by decide +kernel
theorem dX9_note_24 : decode cX9_note 24 = .ok (.aload_n 0, 1) := by decide +kernel
theorem dX9_note_25 : decode cX9_note 25 = .ok (.getfield 28, 3) := by decide +kernel
theorem dX9_note_28 : decode cX9_note 28 = .ok (.iload_n 2, 1) := by decide +kernel
theorem dX9_note_29 : decode cX9_note 29 = .ok (.iastore, 1) := by decide +kernel
theorem dX9_note_30 : decode cX9_note 30 = .ok (.aload_n 0, 1) := by decide +kernel
theorem dX9_note_31 : decode cX9_note 31 = .ok (.getfield 21, 3) := by decide +kernel
theorem dX9_note_34 : decode cX9_note 34 = .ok (.aload_n 0, 1) := by decide +kernel
theorem dX9_note_35 : decode cX9_note 35 = .ok (.getfield 28, 3) := by decide +kernel
theorem dX9_note_38 : decode cX9_note 38 = .ok (.iload_n 3, 1) := by decide +kernel
theorem dX9_note_39 : decode cX9_note 39 = .ok (.iastore, 1) := by decide +kernel
theorem dX9_note_40 : decode cX9_note 40 = .ok (.aload_n 0, 1) := by decide +kernel
theorem dX9_note_41 : decode cX9_note 41 = .ok (.dup, 1) := by decide +kernel
theorem dX9_note_42 : decode cX9_note 42 = .ok (.getfield 28, 3) := by decide +kernel
theorem dX9_note_45 : decode cX9_note 45 = .ok (.iconst 1, 1) := by decide +kernel
theorem dX9_note_46 : decode cX9_note 46 = .ok (.iadd, 1) := by decide +kernel
theorem dX9_note_47 : decode cX9_note 47 = .ok (.putfield 28, 3) := by decide +kernel
theorem dX9_note_50 : decode cX9_note 50 = .ok (.return_, 1) := by decide +kernel
theorem dX9_cutWord_0 : decode cX9_cutWord 0 = .ok (.iload_n 1, 1) := by decide +kernel
theorem dX9_cutWord_1 : decode cX9_cutWord 1 = .ok (.iconst 1, 1) := by decide +kernel
theorem dX9_cutWord_2 : decode cX9_cutWord 2 = .ok (.iadd, 1) := by decide +kernel
theorem dX9_cutWord_3 : decode cX9_cutWord 3 = .ok (.istore_n 2, 1) := by decide +kernel
theorem dX9_cutWord_4 : decode cX9_cutWord 4 = .ok (.iload_n 2, 1) := by decide +kernel
theorem dX9_cutWord_5 : decode cX9_cutWord 5 = .ok (.aload_n 0, 1) := by decide +kernel
theorem dX9_cutWord_6 : decode cX9_cutWord 6 = .ok (.getfield 24, 3) := by decide +kernel
theorem dX9_cutWord_9 : decode cX9_cutWord 9 = .ok (.if_icmp .ge 21, 3) := by decide +kernel
theorem dX9_cutWord_12 : decode cX9_cutWord 12 = .ok (.aload_n 0, 1) := by decide +kernel
theorem dX9_cutWord_13 : decode cX9_cutWord 13 = .ok (.getfield 9, 3) := by decide +kernel
theorem dX9_cutWord_16 : decode cX9_cutWord 16 = .ok (.iload_n 2, 1) := by decide +kernel
theorem dX9_cutWord_17 : decode cX9_cutWord 17 = .ok (.iaload, 1) := by decide +kernel
theorem dX9_cutWord_18 : decode cX9_cutWord 18 = .ok (.invokestatic 35, 3) := by decide +kernel
theorem dX9_cutWord_21 : decode cX9_cutWord 21 = .ok (.ifCond .eq 9, 3) := by decide +kernel
theorem dX9_cutWord_24 : decode cX9_cutWord 24 = .ok (.iinc 2 1, 3) := by decide +kernel
theorem dX9_cutWord_27 : decode cX9_cutWord 27 = .ok (.goto (-23), 3) := by decide +kernel
theorem dX9_cutWord_30 : decode cX9_cutWord 30 = .ok (.aload_n 0, 1) := by decide +kernel
theorem dX9_cutWord_31 : decode cX9_cutWord 31 = .ok (.iload_n 1, 1) := by decide +kernel
theorem dX9_cutWord_32 : decode cX9_cutWord 32 = .ok (.iload_n 2, 1) := by decide +kernel
theorem dX9_cutWord_33 : decode cX9_cutWord 33 = .ok (.iload_n 1, 1) := by decide +kernel
theorem dX9_cutWord_34 : decode cX9_cutWord 34 = .ok (.isub, 1) := by decide +kernel
theorem dX9_cutWord_35 : decode cX9_cutWord 35 = .ok (.invokevirtual 55, 3) := by decide +kernel
theorem dX9_cutWord_38 : decode cX9_cutWord 38 = .ok (.istore_n 3, 1) := by decide +kernel
theorem dX9_cutWord_39 : decode cX9_cutWord 39 = .ok (.iload_n 3, 1) := by decide +kernel
theorem dX9_cutWord_40 : decode cX9_cutWord 40 = .ok (.iconst (-1), 1) := by decide +kernel
theorem dX9_cutWord_41 : decode cX9_cutWord 41 = .ok (.if_icmp .ne 14, 3) := by decide +kernel
theorem dX9_cutWord_44 : decode cX9_cutWord 44 = .ok (.aload_n 0, 1) := by decide +kernel
theorem dX9_cutWord_45 : decode cX9_cutWord 45 = .ok (.bipush (-2), 2) := by decide +kernel
theorem dX9_cutWord_47 : decode cX9_cutWord 47 = .ok (.iconst 0, 1) := by decide +kernel
theorem dX9_cutWord_48 : decode cX9_cutWord 48 = .ok (.iload_n 1, 1) := by decide +kernel
theorem dX9_cutWord_49 : decode cX9_cutWord 49 = .ok (.invokevirtual 51, 3) := by decide +kernel
theorem dX9_cutWord_52 : decode cX9_cutWord 52 = .ok (.goto 33, 3) := by decide +kernel
theorem dX9_cutWord_55 : decode cX9_cutWord 55 = .ok (.iload_n 3, 1) := by decide +kernel
theorem dX9_cutWord_56 : decode cX9_cutWord 56 = .ok (.bipush 6, 2) := by decide +kernel
theorem dX9_cutWord_58 : decode cX9_cutWord 58 = .ok (.if_icmp .ge 16, 3) := by decide +kernel
theorem dX9_cutWord_61 : decode cX9_cutWord 61 = .ok (.aload_n 0, 1) := by decide +kernel
theorem dX9_cutWord_62 : decode cX9_cutWord 62 = .ok (.bipush (-4), 2) := by decide +kernel
theorem dX9_cutWord_64 : decode cX9_cutWord 64 = .ok (.iconst (-1), 1) := by decide +kernel
theorem dX9_cutWord_65 : decode cX9_cutWord 65 = .ok (.iload_n 3, 1) := by decide +kernel
theorem dX9_cutWord_66 : decode cX9_cutWord 66 = .ok (.isub, 1) := by decide +kernel
theorem dX9_cutWord_67 : decode cX9_cutWord 67 = .ok (.iload_n 1, 1) := by decide +kernel
theorem dX9_cutWord_68 : decode cX9_cutWord 68 = .ok (.invokevirtual 51, 3) := by decide +kernel
theorem dX9_cutWord_71 : decode cX9_cutWord 71 = .ok (.goto 14, 3) := by decide +kernel
theorem dX9_cutWord_74 : decode cX9_cutWord 74 = .ok (.aload_n 0, 1) := by decide +kernel
theorem dX9_cutWord_75 : decode cX9_cutWord 75 = .ok (.sipush 256, 3) := by decide +kernel
theorem dX9_cutWord_78 : decode cX9_cutWord 78 = .ok (.iload_n 3, 1) := by decide +kernel
theorem dX9_cutWord_79 : decode cX9_cutWord 79 = .ok (.iadd, 1) := by decide +kernel
theorem dX9_cutWord_80 : decode cX9_cutWord 80 = .ok (.iconst 0, 1) := by decide +kernel
theorem dX9_cutWord_81 : decode cX9_cutWord 81 = .ok (.iload_n 1, 1) := by decide +kernel
theorem dX9_cutWord_82 : decode cX9_cutWord 82 = .ok (.invokevirtual 51, 3) := by decide +kernel
theorem dX9_cutWord_85 : decode cX9_cutWord 85 = .ok (.iload_n 2, 1) := by decide +kernel
theorem dX9_cutWord_86 : decode cX9_cutWord 86 = .ok (.ireturn, 1) := by decide +kernel
theorem dX9_wordAmong_0 : decode cX9_wordAmong 0 = .ok (.iload_n 2, 1) := by decide +kernel
theorem dX9_wordAmong_1 : decode cX9_wordAmong 1 = .ok (.bipush 6, 2) := by decide +kernel
theorem dX9_wordAmong_3 : decode cX9_wordAmong 3 = .ok (.if_icmp .lt 5, 3) := by decide +kernel
theorem dX9_wordAmong_6 : decode cX9_wordAmong 6 = .ok (.iconst (-1), 1) := by decide +kernel
theorem dX9_wordAmong_7 : decode cX9_wordAmong 7 = .ok (.ireturn, 1) := by decide +kernel
theorem dX9_wordAmong_8 : decode cX9_wordAmong 8 = .ok (.iconst 0, 1) := by decide +kernel
theorem dX9_wordAmong_9 : decode cX9_wordAmong 9 = .ok (.istore_n 3, 1) := by decide +kernel
theorem dX9_wordAmong_10 : decode cX9_wordAmong 10 = .ok (.iload_n 3, 1) := by decide +kernel
theorem dX9_wordAmong_11 : decode cX9_wordAmong 11 = .ok (.bipush 12, 2) := by decide +kernel
theorem dX9_wordAmong_13 : decode cX9_wordAmong 13 = .ok (.if_icmp .ge 71, 3) := by decide +kernel
theorem dX9_wordAmong_16 : decode cX9_wordAmong 16 = .ok (.iconst 0, 1) := by decide +kernel
theorem dX9_wordAmong_17 : decode cX9_wordAmong 17 = .ok (.istore 4, 2) := by decide +kernel
theorem dX9_wordAmong_19 : decode cX9_wordAmong 19 = .ok (.iload 4, 2) := by decide +kernel
theorem dX9_wordAmong_21 : decode cX9_wordAmong 21 = .ok (.iload_n 2, 1) := by decide +kernel
theorem dX9_wordAmong_22 : decode cX9_wordAmong 22 = .ok (.if_icmp .ge 32, 3) := by decide +kernel
theorem dX9_wordAmong_25 : decode cX9_wordAmong 25 = .ok (.ldc 59, 2) := by decide +kernel
theorem dX9_wordAmong_27 : decode cX9_wordAmong 27 = .ok (.iload_n 3, 1) := by decide +kernel
theorem dX9_wordAmong_28 : decode cX9_wordAmong 28 = .ok (.bipush 6, 2) := by decide +kernel
theorem dX9_wordAmong_30 : decode cX9_wordAmong 30 = .ok (.imul, 1) := by decide +kernel
theorem dX9_wordAmong_31 : decode cX9_wordAmong 31 = .ok (.iload 4, 2) := by decide +kernel
theorem dX9_wordAmong_33 : decode cX9_wordAmong 33 = .ok (.iadd, 1) := by decide +kernel
theorem dX9_wordAmong_34 : decode cX9_wordAmong 34 = .ok (.invokevirtual 61, 3) := by decide +kernel
theorem dX9_wordAmong_37 : decode cX9_wordAmong 37 = .ok (.aload_n 0, 1) := by decide +kernel
theorem dX9_wordAmong_38 : decode cX9_wordAmong 38 = .ok (.iload_n 1, 1) := by decide +kernel
theorem dX9_wordAmong_39 : decode cX9_wordAmong 39 = .ok (.iload 4, 2) := by decide +kernel
theorem dX9_wordAmong_41 : decode cX9_wordAmong 41 = .ok (.iadd, 1) := by decide +kernel
theorem dX9_wordAmong_42 : decode cX9_wordAmong 42 = .ok (.invokevirtual 31, 3) := by decide +kernel
theorem dX9_wordAmong_45 : decode cX9_wordAmong 45 = .ok (.if_icmp .ne 9, 3) := by decide +kernel
theorem dX9_wordAmong_48 : decode cX9_wordAmong 48 = .ok (.iinc 4 1, 3) := by decide +kernel
theorem dX9_wordAmong_51 : decode cX9_wordAmong 51 = .ok (.goto (-32), 3) := by decide +kernel
theorem dX9_wordAmong_54 : decode cX9_wordAmong 54 = .ok (.iload 4, 2) := by decide +kernel
theorem dX9_wordAmong_56 : decode cX9_wordAmong 56 = .ok (.iload_n 2, 1) := by decide +kernel
theorem dX9_wordAmong_57 : decode cX9_wordAmong 57 = .ok (.if_icmp .ne 21, 3) := by decide +kernel
theorem dX9_wordAmong_60 : decode cX9_wordAmong 60 = .ok (.ldc 59, 2) := by decide +kernel
theorem dX9_wordAmong_62 : decode cX9_wordAmong 62 = .ok (.iload_n 3, 1) := by decide +kernel
theorem dX9_wordAmong_63 : decode cX9_wordAmong 63 = .ok (.bipush 6, 2) := by decide +kernel
theorem dX9_wordAmong_65 : decode cX9_wordAmong 65 = .ok (.imul, 1) := by decide +kernel
theorem dX9_wordAmong_66 : decode cX9_wordAmong 66 = .ok (.iload_n 2, 1) := by decide +kernel
theorem dX9_wordAmong_67 : decode cX9_wordAmong 67 = .ok (.iadd, 1) := by decide +kernel
theorem dX9_wordAmong_68 : decode cX9_wordAmong 68 = .ok (.invokevirtual 61, 3) := by decide +kernel
theorem dX9_wordAmong_71 : decode cX9_wordAmong 71 = .ok (.bipush 32, 2) := by decide +kernel
theorem dX9_wordAmong_73 : decode cX9_wordAmong 73 = .ok (.if_icmp .ne 5, 3) := by decide +kernel
theorem dX9_wordAmong_76 : decode cX9_wordAmong 76 = .ok (.iload_n 3, 1) := by decide +kernel
theorem dX9_wordAmong_77 : decode cX9_wordAmong 77 = .ok (.ireturn, 1) := by decide +kernel
theorem dX9_wordAmong_78 : decode cX9_wordAmong 78 = .ok (.iinc 3 1, 3) := by decide +kernel
theorem dX9_wordAmong_81 : decode cX9_wordAmong 81 = .ok (.goto (-71), 3) := by decide +kernel
theorem dX9_wordAmong_84 : decode cX9_wordAmong 84 = .ok (.iconst (-1), 1) := by decide +kernel
theorem dX9_wordAmong_85 : decode cX9_wordAmong 85 = .ok (.ireturn, 1) := by decide +kernel
theorem dX9_cutNumber_0 : decode cX9_cutNumber 0 = .ok (.iload_n 1, 1) := by decide +kernel
theorem dX9_cutNumber_1 : decode cX9_cutNumber 1 = .ok (.istore_n 2, 1) := by decide +kernel
theorem dX9_cutNumber_2 : decode cX9_cutNumber 2 = .ok (.iconst 0, 1) := by decide +kernel
theorem dX9_cutNumber_3 : decode cX9_cutNumber 3 = .ok (.istore_n 3, 1) := by decide +kernel
theorem dX9_cutNumber_4 : decode cX9_cutNumber 4 = .ok (.iload_n 2, 1) := by decide +kernel
theorem dX9_cutNumber_5 : decode cX9_cutNumber 5 = .ok (.aload_n 0, 1) := by decide +kernel
theorem dX9_cutNumber_6 : decode cX9_cutNumber 6 = .ok (.getfield 24, 3) := by decide +kernel
theorem dX9_cutNumber_9 : decode cX9_cutNumber 9 = .ok (.if_icmp .ge 36, 3) := by decide +kernel
theorem dX9_cutNumber_12 : decode cX9_cutNumber 12 = .ok (.aload_n 0, 1) := by decide +kernel
theorem dX9_cutNumber_13 : decode cX9_cutNumber 13 = .ok (.getfield 9, 3) := by decide +kernel
theorem dX9_cutNumber_16 : decode cX9_cutNumber 16 = .ok (.iload_n 2, 1) := by decide +kernel
theorem dX9_cutNumber_17 : decode cX9_cutNumber 17 = .ok (.iaload, 1) := by decide +kernel
theorem dX9_cutNumber_18 : decode cX9_cutNumber 18 = .ok (.invokestatic 42, 3) := by decide +kernel
theorem dX9_cutNumber_21 : decode cX9_cutNumber 21 = .ok (.ifCond .eq 24, 3) := by decide +kernel
theorem dX9_cutNumber_24 : decode cX9_cutNumber 24 = .ok (.iload_n 3, 1) := by decide +kernel
theorem dX9_cutNumber_25 : decode cX9_cutNumber 25 = .ok (.bipush 10, 2) := by decide +kernel
theorem dX9_cutNumber_27 : decode cX9_cutNumber 27 = .ok (.imul, 1) := by decide +kernel
theorem dX9_cutNumber_28 : decode cX9_cutNumber 28 = .ok (.aload_n 0, 1) := by decide +kernel
theorem dX9_cutNumber_29 : decode cX9_cutNumber 29 = .ok (.getfield 9, 3) := by decide +kernel
theorem dX9_cutNumber_32 : decode cX9_cutNumber 32 = .ok (.iload_n 2, 1) := by decide +kernel
theorem dX9_cutNumber_33 : decode cX9_cutNumber 33 = .ok (.iaload, 1) := by decide +kernel
theorem dX9_cutNumber_34 : decode cX9_cutNumber 34 = .ok (.iadd, 1) := by decide +kernel
theorem dX9_cutNumber_35 : decode cX9_cutNumber 35 = .ok (.bipush 48, 2) := by decide +kernel
theorem dX9_cutNumber_37 : decode cX9_cutNumber 37 = .ok (.isub, 1) := by decide +kernel
theorem dX9_cutNumber_38 : decode cX9_cutNumber 38 = .ok (.istore_n 3, 1) := by decide +kernel
theorem dX9_cutNumber_39 : decode cX9_cutNumber 39 = .ok (.iinc 2 1, 3) := by decide +kernel
theorem dX9_cutNumber_42 : decode cX9_cutNumber 42 = .ok (.goto (-38), 3) := by decide +kernel
theorem dX9_cutNumber_45 : decode cX9_cutNumber 45 = .ok (.iload_n 2, 1) := by decide +kernel
theorem dX9_cutNumber_46 : decode cX9_cutNumber 46 = .ok (.iload_n 1, 1) := by decide +kernel
theorem dX9_cutNumber_47 : decode cX9_cutNumber 47 = .ok (.isub, 1) := by decide +kernel
theorem dX9_cutNumber_48 : decode cX9_cutNumber 48 = .ok (.iconst 4, 1) := by decide +kernel
theorem dX9_cutNumber_49 : decode cX9_cutNumber 49 = .ok (.if_icmp .le 7, 3) := by decide +kernel
theorem dX9_cutNumber_52 : decode cX9_cutNumber 52 = .ok (.iconst 1, 1) := by decide +kernel
theorem dX9_cutNumber_53 : decode cX9_cutNumber 53 = .ok (.goto 4, 3) := by decide +kernel
theorem dX9_cutNumber_56 : decode cX9_cutNumber 56 = .ok (.iconst 0, 1) := by decide +kernel
theorem dX9_cutNumber_57 : decode cX9_cutNumber 57 = .ok (.istore 4, 2) := by decide +kernel
theorem dX9_cutNumber_59 : decode cX9_cutNumber 59 = .ok (.aload_n 0, 1) := by decide +kernel
theorem dX9_cutNumber_60 : decode cX9_cutNumber 60 = .ok (.iload 4, 2) := by decide +kernel
theorem dX9_cutNumber_62 : decode cX9_cutNumber 62 = .ok (.ifCond .eq 8, 3) := by decide +kernel
theorem dX9_cutNumber_65 : decode cX9_cutNumber 65 = .ok (.bipush (-2), 2) := by decide +kernel
theorem dX9_cutNumber_67 : decode cX9_cutNumber 67 = .ok (.goto 5, 3) := by decide +kernel
theorem dX9_cutNumber_70 : decode cX9_cutNumber 70 = .ok (.bipush (-3), 2) := by decide +kernel
theorem dX9_cutNumber_72 : decode cX9_cutNumber 72 = .ok (.iload_n 3, 1) := by decide +kernel
theorem dX9_cutNumber_73 : decode cX9_cutNumber 73 = .ok (.iload_n 1, 1) := by decide +kernel
theorem dX9_cutNumber_74 : decode cX9_cutNumber 74 = .ok (.invokevirtual 51, 3) := by decide +kernel
theorem dX9_cutNumber_77 : decode cX9_cutNumber 77 = .ok (.iload_n 2, 1) := by decide +kernel
theorem dX9_cutNumber_78 : decode cX9_cutNumber 78 = .ok (.ireturn, 1) := by decide +kernel
theorem dX9_isLetter_0 : decode cX9_isLetter 0 = .ok (.iload_n 0, 1) := by decide +kernel
theorem dX9_isLetter_1 : decode cX9_isLetter 1 = .ok (.bipush 97, 2) := by decide +kernel
theorem dX9_isLetter_3 : decode cX9_isLetter 3 = .ok (.bipush 122, 2) := by decide +kernel
theorem dX9_isLetter_5 : decode cX9_isLetter 5 = .ok (.invokestatic 67, 3) := by decide +kernel
theorem dX9_isLetter_8 : decode cX9_isLetter 8 = .ok (.ireturn, 1) := by decide +kernel
theorem dX9_isDigit_0 : decode cX9_isDigit 0 = .ok (.iload_n 0, 1) := by decide +kernel
theorem dX9_isDigit_1 : decode cX9_isDigit 1 = .ok (.bipush 48, 2) := by decide +kernel
theorem dX9_isDigit_3 : decode cX9_isDigit 3 = .ok (.bipush 57, 2) := by decide +kernel
theorem dX9_isDigit_5 : decode cX9_isDigit 5 = .ok (.invokestatic 67, 3) := by decide +kernel
theorem dX9_isDigit_8 : decode cX9_isDigit 8 = .ok (.ireturn, 1) := by decide +kernel
theorem dX9_isSign_0 : decode cX9_isSign 0 = .ok (.iload_n 0, 1) := by decide +kernel
theorem dX9_isSign_1 : decode cX9_isSign 1 = .ok (.bipush 40, 2) := by decide +kernel
theorem dX9_isSign_3 : decode cX9_isSign 3 = .ok (.if_icmp .eq 45, 3) := by decide +kernel
theorem dX9_isSign_6 : decode cX9_isSign 6 = .ok (.iload_n 0, 1) := by decide +kernel
theorem dX9_isSign_7 : decode cX9_isSign 7 = .ok (.bipush 41, 2) := by decide +kernel
theorem dX9_isSign_9 : decode cX9_isSign 9 = .ok (.if_icmp .eq 39, 3) := by decide +kernel
theorem dX9_isSign_12 : decode cX9_isSign 12 = .ok (.iload_n 0, 1) := by decide +kernel
theorem dX9_isSign_13 : decode cX9_isSign 13 = .ok (.bipush 59, 2) := by decide +kernel
theorem dX9_isSign_15 : decode cX9_isSign 15 = .ok (.if_icmp .eq 33, 3) := by decide +kernel
theorem dX9_isSign_18 : decode cX9_isSign 18 = .ok (.iload_n 0, 1) := by decide +kernel
theorem dX9_isSign_19 : decode cX9_isSign 19 = .ok (.bipush 43, 2) := by decide +kernel
theorem dX9_isSign_21 : decode cX9_isSign 21 = .ok (.if_icmp .eq 27, 3) := by decide +kernel
theorem dX9_isSign_24 : decode cX9_isSign 24 = .ok (.iload_n 0, 1) := by decide +kernel
theorem dX9_isSign_25 : decode cX9_isSign 25 = .ok (.bipush 45, 2) := by decide +kernel
theorem dX9_isSign_27 : decode cX9_isSign 27 = .ok (.if_icmp .eq 21, 3) := by decide +kernel
theorem dX9_isSign_30 : decode cX9_isSign 30 = .ok (.iload_n 0, 1) := by decide +kernel
theorem dX9_isSign_31 : decode cX9_isSign 31 = .ok (.bipush 42, 2) := by decide +kernel
theorem dX9_isSign_33 : decode cX9_isSign 33 = .ok (.if_icmp .eq 15, 3) := by decide +kernel
theorem dX9_isSign_36 : decode cX9_isSign 36 = .ok (.iload_n 0, 1) := by decide +kernel
theorem dX9_isSign_37 : decode cX9_isSign 37 = .ok (.bipush 60, 2) := by decide +kernel
theorem dX9_isSign_39 : decode cX9_isSign 39 = .ok (.if_icmp .eq 9, 3) := by decide +kernel
theorem dX9_isSign_42 : decode cX9_isSign 42 = .ok (.iload_n 0, 1) := by decide +kernel
theorem dX9_isSign_43 : decode cX9_isSign 43 = .ok (.bipush 61, 2) := by decide +kernel
theorem dX9_isSign_45 : decode cX9_isSign 45 = .ok (.if_icmp .ne 7, 3) := by decide +kernel
theorem dX9_isSign_48 : decode cX9_isSign 48 = .ok (.iconst 1, 1) := by decide +kernel
theorem dX9_isSign_49 : decode cX9_isSign 49 = .ok (.goto 4, 3) := by decide +kernel
theorem dX9_isSign_52 : decode cX9_isSign 52 = .ok (.iconst 0, 1) := by decide +kernel
theorem dX9_isSign_53 : decode cX9_isSign 53 = .ok (.ireturn, 1) := by decide +kernel
theorem dX10_init_0 : decode cX10_init 0 = .ok (.aload_n 0, 1) := by decide +kernel
theorem dX10_init_1 : decode cX10_init 1 = .ok (.invokespecial 3, 3) := by decide +kernel
theorem dX10_init_4 : decode cX10_init 4 = .ok (.aload_n 0, 1) := by decide +kernel
theorem dX10_init_5 : decode cX10_init 5 = .ok (.sipush 960, 3) := by decide +kernel
theorem dX10_init_8 : decode cX10_init 8 = .ok (.newarray .int, 2) := by decide +kernel
theorem dX10_init_10 : decode cX10_init 10 = .ok (.putfield 9, 3) := by decide +kernel
theorem dX10_init_13 : decode cX10_init 13 = .ok (.aload_n 0, 1) := by decide +kernel
theorem dX10_init_14 : decode cX10_init 14 = .ok (.bipush 18, 2) := by decide +kernel
theorem dX10_init_16 : decode cX10_init 16 = .ok (.newarray .int, 2) := by decide +kernel
theorem dX10_init_18 : decode cX10_init 18 = .ok (.putfield 15, 3) := by decide +kernel
theorem dX10_init_21 : decode cX10_init 21 = .ok (.aload_n 0, 1) := by decide +kernel
theorem dX10_init_22 : decode cX10_init 22 = .ok (.bipush 18, 2) := by decide +kernel
theorem dX10_init_24 : decode cX10_init 24 = .ok (.newarray .int, 2) := by decide +kernel
theorem dX10_init_26 : decode cX10_init 26 = .ok (.putfield 18, 3) := by decide +kernel
theorem dX10_init_29 : decode cX10_init 29 = .ok (.aload_n 0, 1) := by decide +kernel
theorem dX10_init_30 : decode cX10_init 30 = .ok (.bipush 6, 2) := by decide +kernel
theorem dX10_init_32 : decode cX10_init 32 = .ok (.newarray .int, 2) := by decide +kernel
theorem dX10_init_34 : decode cX10_init 34 = .ok (.putfield 21, 3) := by decide +kernel
theorem dX10_init_37 : decode cX10_init 37 = .ok (.aload_n 0, 1) := by decide +kernel
theorem dX10_init_38 : decode cX10_init 38 = .ok (.sipush 160, 3) := by decide +kernel
theorem dX10_init_41 : decode cX10_init 41 = .ok (.newarray .int, 2) := by decide +kernel
theorem dX10_init_43 : decode cX10_init 43 = .ok (.putfield 24, 3) := by decide +kernel
theorem dX10_init_46 : decode cX10_init 46 = .ok (.return_, 1) := by decide +kernel
theorem dX10_has_0 : decode cX10_has 0 = .ok (.iload_n 1, 1) := by decide +kernel
theorem dX10_has_1 : decode cX10_has 1 = .ok (.ifCond .lt 15, 3) := by decide +kernel
theorem dX10_has_4 : decode cX10_has 4 = .ok (.iload_n 1, 1) := by decide +kernel
theorem dX10_has_5 : decode cX10_has 5 = .ok (.aload_n 0, 1) := by decide +kernel
theorem dX10_has_6 : decode cX10_has 6 = .ok (.getfield 27, 3) := by decide +kernel
theorem dX10_has_9 : decode cX10_has 9 = .ok (.if_icmp .ge 7, 3) := by decide +kernel
theorem dX10_has_12 : decode cX10_has 12 = .ok (.iconst 1, 1) := by decide +kernel
theorem dX10_has_13 : decode cX10_has 13 = .ok (.goto 4, 3) := by decide +kernel
theorem dX10_has_16 : decode cX10_has 16 = .ok (.iconst 0, 1) := by decide +kernel
theorem dX10_has_17 : decode cX10_has 17 = .ok (.ireturn, 1) := by decide +kernel
theorem dX10_keep_0 : decode cX10_keep 0 = .ok (.aload_n 0, 1) := by decide +kernel
theorem dX10_keep_1 : decode cX10_keep 1 = .ok (.getfield 27, 3) := by decide +kernel
theorem dX10_keep_4 : decode cX10_keep 4 = .ok (.bipush 6, 2) := by decide +kernel
theorem dX10_keep_6 : decode cX10_keep 6 = .ok (.if_icmp .lt 6, 3) := by decide +kernel
theorem dX10_keep_9 : decode cX10_keep 9 = .ok (.bipush (-4), 2) := by decide +kernel
theorem dX10_keep_11 : decode cX10_keep 11 = .ok (.ireturn, 1) := by decide +kernel
theorem dX10_keep_12 : decode cX10_keep 12 = .ok (.aload_n 0, 1) := by decide +kernel
theorem dX10_keep_13 : decode cX10_keep 13 = .ok (.getfield 27, 3) := by decide +kernel
theorem dX10_keep_16 : decode cX10_keep 16 = .ok (.sipush 160, 3) := by decide +kernel
theorem dX10_keep_19 : decode cX10_keep 19 = .ok (.imul, 1) := by decide +kernel
theorem dX10_keep_20 : decode cX10_keep 20 = .ok (.istore_n 2, 1) := by decide +kernel
theorem dX10_keep_21 : decode cX10_keep 21 = .ok (.iconst 0, 1) := by decide +kernel
theorem dX10_keep_22 : decode cX10_keep 22 = .ok (.istore_n 3, 1) := by decide +kernel
theorem dX10_keep_23 : decode cX10_keep 23 = .ok (.iload_n 3, 1) := by decide +kernel
theorem dX10_keep_24 : decode cX10_keep 24 = .ok (.sipush 160, 3) := by decide +kernel
theorem dX10_keep_27 : decode cX10_keep 27 = .ok (.if_icmp .ge 23, 3) := by decide +kernel
theorem dX10_keep_30 : decode cX10_keep 30 = .ok (.aload_n 0, 1) := by decide +kernel
theorem dX10_keep_31 : decode cX10_keep 31 = .ok (.getfield 9, 3) := by decide +kernel
theorem dX10_keep_34 : decode cX10_keep 34 = .ok (.iload_n 2, 1) := by decide +kernel
theorem dX10_keep_35 : decode cX10_keep 35 = .ok (.iload_n 3, 1) := by decide +kernel
theorem dX10_keep_36 : decode cX10_keep 36 = .ok (.iadd, 1) := by decide +kernel
theorem dX10_keep_37 : decode cX10_keep 37 = .ok (.aload_n 1, 1) := by decide +kernel
theorem dX10_keep_38 : decode cX10_keep 38 = .ok (.getfield 31, 3) := by decide +kernel
theorem dX10_keep_41 : decode cX10_keep 41 = .ok (.iload_n 3, 1) := by decide +kernel
theorem dX10_keep_42 : decode cX10_keep 42 = .ok (.iaload, 1) := by decide +kernel
theorem dX10_keep_43 : decode cX10_keep 43 = .ok (.iastore, 1) := by decide +kernel
theorem dX10_keep_44 : decode cX10_keep 44 = .ok (.iinc 3 1, 3) := by decide +kernel
theorem dX10_keep_47 : decode cX10_keep 47 = .ok (.goto (-24), 3) := by decide +kernel
theorem dX10_keep_50 : decode cX10_keep 50 = .ok (.iconst 0, 1) := by decide +kernel
theorem dX10_keep_51 : decode cX10_keep 51 = .ok (.istore_n 3, 1) := by decide +kernel
theorem dX10_keep_52 : decode cX10_keep 52 = .ok (.iconst 0, 1) := by decide +kernel
theorem dX10_keep_53 : decode cX10_keep 53 = .ok (.istore 4, 2) := by decide +kernel
theorem dX10_keep_55 : decode cX10_keep 55 = .ok (.iload 4, 2) := by decide +kernel
theorem dX10_keep_57 : decode cX10_keep 57 = .ok (.iconst 3, 1) := by decide +kernel
theorem dX10_keep_58 : decode cX10_keep 58 = .ok (.if_icmp .ge 57, 3) := by decide +kernel
theorem dX10_keep_61 : decode cX10_keep 61 = .ok (.aload_n 0, 1) := by decide +kernel
theorem dX10_keep_62 : decode cX10_keep 62 = .ok (.getfield 15, 3) := by decide +kernel
theorem dX10_keep_65 : decode cX10_keep 65 = .ok (.aload_n 0, 1) := by decide +kernel
theorem dX10_keep_66 : decode cX10_keep 66 = .ok (.getfield 27, 3) := by decide +kernel
theorem dX10_keep_69 : decode cX10_keep 69 = .ok (.iconst 3, 1) := by decide +kernel
theorem dX10_keep_70 : decode cX10_keep 70 = .ok (.imul, 1) := by decide +kernel
theorem dX10_keep_71 : decode cX10_keep 71 = .ok (.iload 4, 2) := by decide +kernel
theorem dX10_keep_73 : decode cX10_keep 73 = .ok (.iadd, 1) := by decide +kernel
theorem dX10_keep_74 : decode cX10_keep 74 = .ok (.iload_n 2, 1) := by decide +kernel
theorem dX10_keep_75 : decode cX10_keep 75 = .ok (.iload_n 3, 1) := by decide +kernel
theorem dX10_keep_76 : decode cX10_keep 76 = .ok (.iadd, 1) := by decide +kernel
theorem dX10_keep_77 : decode cX10_keep 77 = .ok (.iastore, 1) := by decide +kernel
theorem dX10_keep_78 : decode cX10_keep 78 = .ok (.aload_n 0, 1) := by decide +kernel
theorem dX10_keep_79 : decode cX10_keep 79 = .ok (.getfield 18, 3) := by decide +kernel
theorem dX10_keep_82 : decode cX10_keep 82 = .ok (.aload_n 0, 1) := by decide +kernel
theorem dX10_keep_83 : decode cX10_keep 83 = .ok (.getfield 27, 3) := by decide +kernel
theorem dX10_keep_86 : decode cX10_keep 86 = .ok (.iconst 3, 1) := by decide +kernel
theorem dX10_keep_87 : decode cX10_keep 87 = .ok (.imul, 1) := by decide +kernel
theorem dX10_keep_88 : decode cX10_keep 88 = .ok (.iload 4, 2) := by decide +kernel
theorem dX10_keep_90 : decode cX10_keep 90 = .ok (.iadd, 1) := by decide +kernel
theorem dX10_keep_91 : decode cX10_keep 91 = .ok (.iload_n 2, 1) := by decide +kernel
theorem dX10_keep_92 : decode cX10_keep 92 = .ok (.aload_n 1, 1) := by decide +kernel
theorem dX10_keep_93 : decode cX10_keep 93 = .ok (.getfield 34, 3) := by decide +kernel
theorem dX10_keep_96 : decode cX10_keep 96 = .ok (.iload 4, 2) := by decide +kernel
theorem dX10_keep_98 : decode cX10_keep 98 = .ok (.iaload, 1) := by decide +kernel
theorem dX10_keep_99 : decode cX10_keep 99 = .ok (.iadd, 1) := by decide +kernel
theorem dX10_keep_100 : decode cX10_keep 100 = .ok (.iastore, 1) := by decide +kernel
theorem dX10_keep_101 : decode cX10_keep 101 = .ok (.aload_n 1, 1) := by decide +kernel
theorem dX10_keep_102 : decode cX10_keep 102 = .ok (.getfield 34, 3) := by decide +kernel
theorem dX10_keep_105 : decode cX10_keep 105 = .ok (.iload 4, 2) := by decide +kernel
theorem dX10_keep_107 : decode cX10_keep 107 = .ok (.iaload, 1) := by decide +kernel
theorem dX10_keep_108 : decode cX10_keep 108 = .ok (.istore_n 3, 1) := by decide +kernel
theorem dX10_keep_109 : decode cX10_keep 109 = .ok (.iinc 4 1, 3) := by decide +kernel
theorem dX10_keep_112 : decode cX10_keep 112 = .ok (.goto (-57), 3) := by decide +kernel
theorem dX10_keep_115 : decode cX10_keep 115 = .ok (.aload_n 0, 1) := by decide +kernel
theorem dX10_keep_116 : decode cX10_keep 116 = .ok (.dup, 1) := by decide +kernel
theorem dX10_keep_117 : decode cX10_keep 117 = .ok (.getfield 27, 3) := by decide +kernel
theorem dX10_keep_120 : decode cX10_keep 120 = .ok (.iconst 1, 1) := by decide +kernel
theorem dX10_keep_121 : decode cX10_keep 121 = .ok (.iadd, 1) := by decide +kernel
theorem dX10_keep_122 : decode cX10_keep 122 = .ok (.putfield 27, 3) := by decide +kernel
theorem dX10_keep_125 : decode cX10_keep 125 = .ok (.aload_n 0, 1) := by decide +kernel
theorem dX10_keep_126 : decode cX10_keep 126 = .ok (.getfield 27, 3) := by decide +kernel
theorem dX10_keep_129 : decode cX10_keep 129 = .ok (.iconst 1, 1) := by decide +kernel
theorem dX10_keep_130 : decode cX10_keep 130 = .ok (.isub, 1) := by decide +kernel
theorem dX10_keep_131 : decode cX10_keep 131 = .ok (.ireturn, 1) := by decide +kernel
theorem dX10_mindsWidth_0 : decode cX10_mindsWidth 0 = .ok (.aload_n 0, 1) := by decide +kernel
theorem dX10_mindsWidth_1 : decode cX10_mindsWidth 1 = .ok (.getfield 35, 3) := by decide +kernel
theorem dX10_mindsWidth_4 : decode cX10_mindsWidth 4 = .ok (.iconst 3, 1) := by decide +kernel
theorem dX10_mindsWidth_5 : decode cX10_mindsWidth 5 = .ok (.imul, 1) := by decide +kernel
theorem dX10_mindsWidth_6 : decode cX10_mindsWidth 6 = .ok (.iload_n 1, 1) := by decide +kernel
theorem dX10_mindsWidth_7 : decode cX10_mindsWidth 7 = .ok (.iadd, 1) := by decide +kernel
theorem dX10_mindsWidth_8 : decode cX10_mindsWidth 8 = .ok (.istore_n 2, 1) := by decide +kernel
theorem dX10_mindsWidth_9 : decode cX10_mindsWidth 9 = .ok (.aload_n 0, 1) := by decide +kernel
theorem dX10_mindsWidth_10 : decode cX10_mindsWidth 10 = .ok (.getfield 15, 3) := by decide +kernel
theorem dX10_mindsWidth_13 : decode cX10_mindsWidth 13 = .ok (.iload_n 2, 1) := by decide +kernel
theorem dX10_mindsWidth_14 : decode cX10_mindsWidth 14 = .ok (.iaload, 1) := by decide +kernel
theorem dX10_mindsWidth_15 : decode cX10_mindsWidth 15 = .ok (.istore_n 3, 1) := by decide +kernel
theorem dX10_mindsWidth_16 : decode cX10_mindsWidth 16 = .ok (.iload_n 3, 1) := by decide +kernel
theorem dX10_mindsWidth_17 : decode cX10_mindsWidth 17 = .ok (.aload_n 0, 1) := by decide +kernel
theorem dX10_mindsWidth_18 : decode cX10_mindsWidth 18 = .ok (.getfield 18, 3) := by decide +kernel
theorem dX10_mindsWidth_21 : decode cX10_mindsWidth 21 = .ok (.iload_n 2, 1) := by decide +kernel
theorem dX10_mindsWidth_22 : decode cX10_mindsWidth 22 = .ok (.iaload, 1) := by decide +kernel
theorem dX10_mindsWidth_23 : decode cX10_mindsWidth 23 = .ok (.if_icmp .ge 22, 3) := by decide +kernel
theorem dX10_mindsWidth_26 : decode cX10_mindsWidth 26 = .ok (.aload_n 0, 1) := by decide +kernel
theorem dX10_mindsWidth_27 : decode cX10_mindsWidth 27 = .ok (.getfield 9, 3) := by decide +kernel
theorem dX10_mindsWidth_30 : decode cX10_mindsWidth 30 = .ok (.iload_n 3, 1) := by decide +kernel
theorem dX10_mindsWidth_31 : decode cX10_mindsWidth 31 = .ok (.iaload, 1) := by decide +kernel
theorem dX10_mindsWidth_32 : decode cX10_mindsWidth 32 = .ok (.bipush (-6), 2) := by decide +kernel
theorem dX10_mindsWidth_34 : decode cX10_mindsWidth 34 = .ok (.if_icmp .ne 5, 3) := by decide +kernel
theorem dX10_mindsWidth_37 : decode cX10_mindsWidth 37 = .ok (.iconst 1, 1) := by decide +kernel
theorem dX10_mindsWidth_38 : decode cX10_mindsWidth 38 = .ok (.ireturn, 1) := by decide +kernel
theorem dX10_mindsWidth_39 : decode cX10_mindsWidth 39 = .ok (.iinc 3 1, 3) := by decide +kernel
theorem dX10_mindsWidth_42 : decode cX10_mindsWidth 42 = .ok (.goto (-26), 3) := by decide +kernel
theorem dX10_mindsWidth_45 : decode cX10_mindsWidth 45 = .ok (.iconst 0, 1) := by decide +kernel
theorem dX10_mindsWidth_46 : decode cX10_mindsWidth 46 = .ok (.ireturn, 1) := by decide +kernel
theorem dX10_regard_0 : decode cX10_regard 0 = .ok (.aload_n 0, 1) := by decide +kernel
theorem dX10_regard_1 : decode cX10_regard 1 = .ok (.getfield 21, 3) := by decide +kernel
theorem dX10_regard_4 : decode cX10_regard 4 = .ok (.iconst 2, 1) := by decide +kernel
theorem dX10_regard_5 : decode cX10_regard 5 = .ok (.iload_n 1, 1) := by decide +kernel
theorem dX10_regard_6 : decode cX10_regard 6 = .ok (.iastore, 1) := by decide +kernel
theorem dX10_regard_7 : decode cX10_regard 7 = .ok (.aload_n 0, 1) := by decide +kernel
theorem dX10_regard_8 : decode cX10_regard 8 = .ok (.getfield 21, 3) := by decide +kernel
theorem dX10_regard_11 : decode cX10_regard 11 = .ok (.iconst 3, 1) := by decide +kernel
theorem dX10_regard_12 : decode cX10_regard 12 = .ok (.iload_n 2, 1) := by decide +kernel
theorem dX10_regard_13 : decode cX10_regard 13 = .ok (.iastore, 1) := by decide +kernel
theorem dX10_regard_14 : decode cX10_regard 14 = .ok (.aload_n 0, 1) := by decide +kernel
theorem dX10_regard_15 : decode cX10_regard 15 = .ok (.getfield 21, 3) := by decide +kernel
theorem dX10_regard_18 : decode cX10_regard 18 = .ok (.iconst 4, 1) := by decide +kernel
theorem dX10_regard_19 : decode cX10_regard 19 = .ok (.iload_n 3, 1) := by decide +kernel
theorem dX10_regard_20 : decode cX10_regard 20 = .ok (.iastore, 1) := by decide +kernel
theorem dX10_regard_21 : decode cX10_regard 21 = .ok (.aload_n 0, 1) := by decide +kernel
theorem dX10_regard_22 : decode cX10_regard 22 = .ok (.getfield 21, 3) := by decide +kernel
theorem dX10_regard_25 : decode cX10_regard 25 = .ok (.iconst 5, 1) := by decide +kernel
theorem dX10_regard_26 : decode cX10_regard 26 = .ok (.iload 4, 2) := by decide +kernel
theorem dX10_regard_28 : decode cX10_regard 28 = .ok (.iastore, 1) := by decide +kernel
theorem dX10_regard_29 : decode cX10_regard 29 = .ok (.return_, 1) := by decide +kernel
theorem dX10_worth_0 : decode cX10_worth 0 = .ok (.aload_n 0, 1) := by decide +kernel
theorem dX10_worth_1 : decode cX10_worth 1 = .ok (.getfield 21, 3) := by decide +kernel
theorem dX10_worth_4 : decode cX10_worth 4 = .ok (.iconst 0, 1) := by decide +kernel
theorem dX10_worth_5 : decode cX10_worth 5 = .ok (.iload_n 2, 1) := by decide +kernel
theorem dX10_worth_6 : decode cX10_worth 6 = .ok (.iastore, 1) := by decide +kernel
theorem dX10_worth_7 : decode cX10_worth 7 = .ok (.aload_n 0, 1) := by decide +kernel
theorem dX10_worth_8 : decode cX10_worth 8 = .ok (.getfield 21, 3) := by decide +kernel
theorem dX10_worth_11 : decode cX10_worth 11 = .ok (.iconst 1, 1) := by decide +kernel
theorem dX10_worth_12 : decode cX10_worth 12 = .ok (.iload_n 3, 1) := by decide +kernel
theorem dX10_worth_13 : decode cX10_worth 13 = .ok (.iastore, 1) := by decide +kernel
theorem dX10_worth_14 : decode cX10_worth 14 = .ok (.aload_n 0, 1) := by decide +kernel
theorem dX10_worth_15 : decode cX10_worth 15 = .ok (.getfield 35, 3) := by decide +kernel
theorem dX10_worth_18 : decode cX10_worth 18 = .ok (.iconst 3, 1) := by decide +kernel
theorem dX10_worth_19 : decode cX10_worth 19 = .ok (.imul, 1) := by decide +kernel
theorem dX10_worth_20 : decode cX10_worth 20 = .ok (.iload_n 1, 1) := by decide +kernel
theorem dX10_worth_21 : decode cX10_worth 21 = .ok (.iadd, 1) := by decide +kernel
theorem dX10_worth_22 : decode cX10_worth 22 = .ok (.istore 4, 2) := by decide +kernel
theorem dX10_worth_24 : decode cX10_worth 24 = .ok (.iconst 0, 1) := by decide +kernel
theorem dX10_worth_25 : decode cX10_worth 25 = .ok (.istore 5, 2) := by decide +kernel
theorem dX10_worth_27 : decode cX10_worth 27 = .ok (.aload_n 0, 1) := by decide +kernel
theorem dX10_worth_28 : decode cX10_worth 28 = .ok (.getfield 15, 3) := by decide +kernel
theorem dX10_worth_31 : decode cX10_worth 31 = .ok (.iload 4, 2) := by decide +kernel
theorem dX10_worth_33 : decode cX10_worth 33 = .ok (.iaload, 1) := by decide +kernel
theorem dX10_worth_34 : decode cX10_worth 34 = .ok (.istore 6, 2) := by decide +kernel
theorem dX10_worth_36 : decode cX10_worth 36 = .ok (.iload 6, 2) := by decide +kernel
theorem dX10_worth_38 : decode cX10_worth 38 = .ok (.aload_n 0, 1) := by decide +kernel
theorem dX10_worth_39 : decode cX10_worth 39 = .ok (.getfield 18, 3) := by decide +kernel
theorem dX10_worth_42 : decode cX10_worth 42 = .ok (.iload 4, 2) := by decide +kernel
theorem dX10_worth_44 : decode cX10_worth 44 = .ok (.iaload, 1) := by decide +kernel
theorem dX10_worth_45 : decode cX10_worth 45 = .ok (.if_icmp .ge 156, 3) := by decide +kernel
theorem dX10_worth_48 : decode cX10_worth 48 = .ok (.aload_n 0, 1) := by decide +kernel
theorem dX10_worth_49 : decode cX10_worth 49 = .ok (.getfield 9, 3) := by decide +kernel
theorem dX10_worth_52 : decode cX10_worth 52 = .ok (.iload 6, 2) := by decide +kernel
theorem dX10_worth_54 : decode cX10_worth 54 = .ok (.iaload, 1) := by decide +kernel
theorem dX10_worth_55 : decode cX10_worth 55 = .ok (.istore 7, 2) := by decide +kernel
theorem dX10_worth_57 : decode cX10_worth 57 = .ok (.iload 7, 2) := by decide +kernel
theorem dX10_worth_59 : decode cX10_worth 59 = .ok (.bipush (-6), 2) := by decide +kernel
theorem dX10_worth_61 : decode cX10_worth 61 = .ok (.if_icmp .lt 45, 3) := by decide +kernel
theorem dX10_worth_64 : decode cX10_worth 64 = .ok (.iload 5, 2) := by decide +kernel
theorem dX10_worth_66 : decode cX10_worth 66 = .ok (.sipush 160, 3) := by decide +kernel
theorem dX10_worth_69 : decode cX10_worth 69 = .ok (.if_icmp .lt 5, 3) := by decide +kernel
theorem dX10_worth_72 : decode cX10_worth 72 = .ok (.iconst 0, 1) := by decide +kernel
theorem dX10_worth_73 : decode cX10_worth 73 = .ok (.ireturn, 1) := by decide +kernel
theorem dX10_worth_74 : decode cX10_worth 74 = .ok (.aload_n 0, 1) := by decide +kernel
theorem dX10_worth_75 : decode cX10_worth 75 = .ok (.getfield 24, 3) := by decide +kernel
theorem dX10_worth_78 : decode cX10_worth 78 = .ok (.iload 5, 2) := by decide +kernel
theorem dX10_worth_80 : decode cX10_worth 80 = .ok (.iload 7, 2) := by decide +kernel
theorem dX10_worth_82 : decode cX10_worth 82 = .ok (.ifCond .lt 8, 3) := by decide +kernel
theorem dX10_worth_85 : decode cX10_worth 85 = .ok (.iload 7, 2) := by decide +kernel
theorem dX10_worth_87 : decode cX10_worth 87 = .ok (.goto 12, 3) := by decide +kernel
theorem dX10_worth_90 : decode cX10_worth 90 = .ok (.aload_n 0, 1) := by decide +kernel
theorem dX10_worth_91 : decode cX10_worth 91 = .ok (.getfield 21, 3) := by decide +kernel
theorem dX10_worth_94 : decode cX10_worth 94 = .ok (.iconst (-1), 1) := by decide +kernel
theorem dX10_worth_95 : decode cX10_worth 95 = .ok (.iload 7, 2) := by decide +kernel
theorem dX10_worth_97 : decode cX10_worth 97 = .ok (.isub, 1) := by decide +kernel
theorem dX10_worth_98 : decode cX10_worth 98 = .ok (.iaload, 1) := by decide +kernel
theorem dX10_worth_99 : decode cX10_worth 99 = .ok (.iastore, 1) := by decide +kernel
theorem dX10_worth_100 : decode cX10_worth 100 = .ok (.iinc 5 1, 3) := by decide +kernel
theorem dX10_worth_103 : decode cX10_worth 103 = .ok (.goto 92, 3) := by decide +kernel
theorem dX10_worth_106 : decode cX10_worth 106 = .ok (.iload 7, 2) := by decide +kernel
theorem dX10_worth_108 : decode cX10_worth 108 = .ok (.bipush (-13), 2) := by decide +kernel
theorem dX10_worth_110 : decode cX10_worth 110 = .ok (.if_icmp .eq 10, 3) := by decide +kernel
theorem dX10_worth_113 : decode cX10_worth 113 = .ok (.iload 7, 2) := by decide +kernel
theorem dX10_worth_115 : decode cX10_worth 115 = .ok (.bipush (-19), 2) := by decide +kernel
theorem dX10_worth_117 : decode cX10_worth 117 = .ok (.if_icmp .ne 37, 3) := by decide +kernel
theorem dX10_worth_120 : decode cX10_worth 120 = .ok (.iload 5, 2) := by decide +kernel
theorem dX10_worth_122 : decode cX10_worth 122 = .ok (.iconst 1, 1) := by decide +kernel
theorem dX10_worth_123 : decode cX10_worth 123 = .ok (.if_icmp .ge 5, 3) := by decide +kernel
theorem dX10_worth_126 : decode cX10_worth 126 = .ok (.iconst 0, 1) := by decide +kernel
theorem dX10_worth_127 : decode cX10_worth 127 = .ok (.ireturn, 1) := by decide +kernel
theorem dX10_worth_128 : decode cX10_worth 128 = .ok (.aload_n 0, 1) := by decide +kernel
theorem dX10_worth_129 : decode cX10_worth 129 = .ok (.getfield 24, 3) := by decide +kernel
theorem dX10_worth_132 : decode cX10_worth 132 = .ok (.iload 5, 2) := by decide +kernel
theorem dX10_worth_134 : decode cX10_worth 134 = .ok (.iconst 1, 1) := by decide +kernel
theorem dX10_worth_135 : decode cX10_worth 135 = .ok (.isub, 1) := by decide +kernel
theorem dX10_worth_136 : decode cX10_worth 136 = .ok (.iload 7, 2) := by decide +kernel
theorem dX10_worth_138 : decode cX10_worth 138 = .ok (.aload_n 0, 1) := by decide +kernel
theorem dX10_worth_139 : decode cX10_worth 139 = .ok (.getfield 24, 3) := by decide +kernel
theorem dX10_worth_142 : decode cX10_worth 142 = .ok (.iload 5, 2) := by decide +kernel
theorem dX10_worth_144 : decode cX10_worth 144 = .ok (.iconst 1, 1) := by decide +kernel
theorem dX10_worth_145 : decode cX10_worth 145 = .ok (.isub, 1) := by decide +kernel
theorem dX10_worth_146 : decode cX10_worth 146 = .ok (.iaload, 1) := by decide +kernel
theorem dX10_worth_147 : decode cX10_worth 147 = .ok (.invokestatic 38, 3) := by decide +kernel
theorem dX10_worth_150 : decode cX10_worth 150 = .ok (.iastore, 1) := by decide +kernel
theorem dX10_worth_151 : decode cX10_worth 151 = .ok (.goto 44, 3) := by decide +kernel
theorem dX10_worth_154 : decode cX10_worth 154 = .ok (.iload 5, 2) := by decide +kernel
theorem dX10_worth_156 : decode cX10_worth 156 = .ok (.iconst 2, 1) := by decide +kernel
theorem dX10_worth_157 : decode cX10_worth 157 = .ok (.if_icmp .ge 5, 3) := by decide +kernel
theorem dX10_worth_160 : decode cX10_worth 160 = .ok (.iconst 0, 1) := by decide +kernel
theorem dX10_worth_161 : decode cX10_worth 161 = .ok (.ireturn, 1) := by decide +kernel
theorem dX10_worth_162 : decode cX10_worth 162 = .ok (.iinc 5 (-1), 3) := by decide +kernel
theorem dX10_worth_165 : decode cX10_worth 165 = .ok (.aload_n 0, 1) := by decide +kernel
theorem dX10_worth_166 : decode cX10_worth 166 = .ok (.getfield 24, 3) := by decide +kernel
theorem dX10_worth_169 : decode cX10_worth 169 = .ok (.iload 5, 2) := by decide +kernel
theorem dX10_worth_171 : decode cX10_worth 171 = .ok (.iconst 1, 1) := by decide +kernel
theorem dX10_worth_172 : decode cX10_worth 172 = .ok (.isub, 1) := by decide +kernel
theorem dX10_worth_173 : decode cX10_worth 173 = .ok (.iload 7, 2) := by decide +kernel
theorem dX10_worth_175 : decode cX10_worth 175 = .ok (.aload_n 0, 1) := by decide +kernel
theorem dX10_worth_176 : decode cX10_worth 176 = .ok (.getfield 24, 3) := by decide +kernel
theorem dX10_worth_179 : decode cX10_worth 179 = .ok (.iload 5, 2) := by decide +kernel
theorem dX10_worth_181 : decode cX10_worth 181 = .ok (.iconst 1, 1) := by decide +kernel
theorem dX10_worth_182 : decode cX10_worth 182 = .ok (.isub, 1) := by decide +kernel
theorem dX10_worth_183 : decode cX10_worth 183 = .ok (.iaload, 1) := by decide +kernel
theorem dX10_worth_184 : decode cX10_worth 184 = .ok (.aload_n 0, 1) := by decide +kernel
theorem dX10_worth_185 : decode cX10_worth 185 = .ok (.getfield 24, 3) := by decide +kernel
theorem dX10_worth_188 : decode cX10_worth 188 = .ok (.iload 5, 2) := by decide +kernel
theorem dX10_worth_190 : decode cX10_worth 190 = .ok (.iaload, 1) := by decide +kernel
theorem dX10_worth_191 : decode cX10_worth 191 = .ok (.invokestatic 42, 3) := by decide +kernel
theorem dX10_worth_194 : decode cX10_worth 194 = .ok (.iastore, 1) := by decide +kernel
theorem dX10_worth_195 : decode cX10_worth 195 = .ok (.iinc 6 1, 3) := by decide +kernel
theorem dX10_worth_198 : decode cX10_worth 198 = .ok (.goto (-162), 3) := by decide +kernel
theorem dX10_worth_201 : decode cX10_worth 201 = .ok (.iload 5, 2) := by decide +kernel
theorem dX10_worth_203 : decode cX10_worth 203 = .ok (.ifCond .le 15, 3) := by decide +kernel
theorem dX10_worth_206 : decode cX10_worth 206 = .ok (.aload_n 0, 1) := by decide +kernel
theorem dX10_worth_207 : decode cX10_worth 207 = .ok (.getfield 24, 3) := by decide +kernel
theorem dX10_worth_210 : decode cX10_worth 210 = .ok (.iload 5, 2) := by decide +kernel
theorem dX10_worth_212 : decode cX10_worth 212 = .ok (.iconst 1, 1) := by decide +kernel
theorem dX10_worth_213 : decode cX10_worth 213 = .ok (.isub, 1) := by decide +kernel
theorem dX10_worth_214 : decode cX10_worth 214 = .ok (.iaload, 1) := by decide +kernel
theorem dX10_worth_215 : decode cX10_worth 215 = .ok (.goto 4, 3) := by decide +kernel
theorem dX10_worth_218 : decode cX10_worth 218 = .ok (.iconst 0, 1) := by decide +kernel
theorem dX10_worth_219 : decode cX10_worth 219 = .ok (.ireturn, 1) := by decide +kernel
theorem dX10_ofOne_0 : decode cX10_ofOne 0 = .ok (.iload_n 0, 1) := by decide +kernel
theorem dX10_ofOne_1 : decode cX10_ofOne 1 = .ok (.bipush (-19), 2) := by decide +kernel
theorem dX10_ofOne_3 : decode cX10_ofOne 3 = .ok (.if_icmp .ne 6, 3) := by decide +kernel
theorem dX10_ofOne_6 : decode cX10_ofOne 6 = .ok (.iload_n 1, 1) := by decide +kernel
theorem dX10_ofOne_7 : decode cX10_ofOne 7 = .ok (.ineg, 1) := by decide +kernel
theorem dX10_ofOne_8 : decode cX10_ofOne 8 = .ok (.ireturn, 1) := by decide +kernel
theorem dX10_ofOne_9 : decode cX10_ofOne 9 = .ok (.iload_n 1, 1) := by decide +kernel
theorem dX10_ofOne_10 : decode cX10_ofOne 10 = .ok (.ifCond .ne 7, 3) := by decide +kernel
theorem dX10_ofOne_13 : decode cX10_ofOne 13 = .ok (.iconst 1, 1) := by decide +kernel
theorem dX10_ofOne_14 : decode cX10_ofOne 14 = .ok (.goto 4, 3) := by decide +kernel
theorem dX10_ofOne_17 : decode cX10_ofOne 17 = .ok (.iconst 0, 1) := by decide +kernel
theorem dX10_ofOne_18 : decode cX10_ofOne 18 = .ok (.ireturn, 1) := by decide +kernel
theorem dX10_ofTwo_0 : decode cX10_ofTwo 0 = .ok (.iload_n 0, 1) := by decide +kernel
theorem dX10_ofTwo_1 : decode cX10_ofTwo 1 = .ok (.tableswitch 101 (-17) (-11) #[97, 93, 82, 71, 101, 57, 43], 43) := by decide +kernel
theorem dX10_ofTwo_44 : decode cX10_ofTwo 44 = .ok (.iload_n 1, 1) := by decide +kernel
theorem dX10_ofTwo_45 : decode cX10_ofTwo 45 = .ok (.ifCond .ne 7, 3) := by decide +kernel
theorem dX10_ofTwo_48 : decode cX10_ofTwo 48 = .ok (.iload_n 2, 1) := by decide +kernel
theorem dX10_ofTwo_49 : decode cX10_ofTwo 49 = .ok (.ifCond .eq 7, 3) := by decide +kernel
theorem dX10_ofTwo_52 : decode cX10_ofTwo 52 = .ok (.iconst 1, 1) := by decide +kernel
theorem dX10_ofTwo_53 : decode cX10_ofTwo 53 = .ok (.goto 4, 3) := by decide +kernel
theorem dX10_ofTwo_56 : decode cX10_ofTwo 56 = .ok (.iconst 0, 1) := by decide +kernel
theorem dX10_ofTwo_57 : decode cX10_ofTwo 57 = .ok (.ireturn, 1) := by decide +kernel
theorem dX10_ofTwo_58 : decode cX10_ofTwo 58 = .ok (.iload_n 1, 1) := by decide +kernel
theorem dX10_ofTwo_59 : decode cX10_ofTwo 59 = .ok (.ifCond .eq 11, 3) := by decide +kernel
theorem dX10_ofTwo_62 : decode cX10_ofTwo 62 = .ok (.iload_n 2, 1) := by decide +kernel
theorem dX10_ofTwo_63 : decode cX10_ofTwo 63 = .ok (.ifCond .eq 7, 3) := by decide +kernel
theorem dX10_ofTwo_66 : decode cX10_ofTwo 66 = .ok (.iconst 1, 1) := by decide +kernel
theorem dX10_ofTwo_67 : decode cX10_ofTwo 67 = .ok (.goto 4, 3) := by decide +kernel
theorem dX10_ofTwo_70 : decode cX10_ofTwo 70 = .ok (.iconst 0, 1) := by decide +kernel
theorem dX10_ofTwo_71 : decode cX10_ofTwo 71 = .ok (.ireturn, 1) := by decide +kernel
theorem dX10_ofTwo_72 : decode cX10_ofTwo 72 = .ok (.iload_n 1, 1) := by decide +kernel
theorem dX10_ofTwo_73 : decode cX10_ofTwo 73 = .ok (.iload_n 2, 1) := by decide +kernel
theorem dX10_ofTwo_74 : decode cX10_ofTwo 74 = .ok (.if_icmp .ge 7, 3) := by decide +kernel
theorem dX10_ofTwo_77 : decode cX10_ofTwo 77 = .ok (.iconst 1, 1) := by decide +kernel
theorem dX10_ofTwo_78 : decode cX10_ofTwo 78 = .ok (.goto 4, 3) := by decide +kernel
theorem dX10_ofTwo_81 : decode cX10_ofTwo 81 = .ok (.iconst 0, 1) := by decide +kernel
theorem dX10_ofTwo_82 : decode cX10_ofTwo 82 = .ok (.ireturn, 1) := by decide +kernel
theorem dX10_ofTwo_83 : decode cX10_ofTwo 83 = .ok (.iload_n 1, 1) := by decide +kernel
theorem dX10_ofTwo_84 : decode cX10_ofTwo 84 = .ok (.iload_n 2, 1) := by decide +kernel
theorem dX10_ofTwo_85 : decode cX10_ofTwo 85 = .ok (.if_icmp .ne 7, 3) := by decide +kernel
theorem dX10_ofTwo_88 : decode cX10_ofTwo 88 = .ok (.iconst 1, 1) := by decide +kernel
theorem dX10_ofTwo_89 : decode cX10_ofTwo 89 = .ok (.goto 4, 3) := by decide +kernel
theorem dX10_ofTwo_92 : decode cX10_ofTwo 92 = .ok (.iconst 0, 1) := by decide +kernel
theorem dX10_ofTwo_93 : decode cX10_ofTwo 93 = .ok (.ireturn, 1) := by decide +kernel
theorem dX10_ofTwo_94 : decode cX10_ofTwo 94 = .ok (.iload_n 1, 1) := by decide +kernel
theorem dX10_ofTwo_95 : decode cX10_ofTwo 95 = .ok (.iload_n 2, 1) := by decide +kernel
theorem dX10_ofTwo_96 : decode cX10_ofTwo 96 = .ok (.iadd, 1) := by decide +kernel
theorem dX10_ofTwo_97 : decode cX10_ofTwo 97 = .ok (.ireturn, 1) := by decide +kernel
theorem dX10_ofTwo_98 : decode cX10_ofTwo 98 = .ok (.iload_n 1, 1) := by decide +kernel
theorem dX10_ofTwo_99 : decode cX10_ofTwo 99 = .ok (.iload_n 2, 1) := by decide +kernel
theorem dX10_ofTwo_100 : decode cX10_ofTwo 100 = .ok (.isub, 1) := by decide +kernel
theorem dX10_ofTwo_101 : decode cX10_ofTwo 101 = .ok (.ireturn, 1) := by decide +kernel
theorem dX10_ofTwo_102 : decode cX10_ofTwo 102 = .ok (.iload_n 1, 1) := by decide +kernel
theorem dX10_ofTwo_103 : decode cX10_ofTwo 103 = .ok (.iload_n 2, 1) := by decide +kernel
theorem dX10_ofTwo_104 : decode cX10_ofTwo 104 = .ok (.imul, 1) := by decide +kernel
theorem dX10_ofTwo_105 : decode cX10_ofTwo 105 = .ok (.ireturn, 1) := by decide +kernel
theorem dX11_init_0 : decode cX11_init 0 = .ok (.aload_n 0, 1) := by decide +kernel
theorem dX11_init_1 : decode cX11_init 1 = .ok (.invokespecial 3, 3) := by decide +kernel
theorem dX11_init_4 : decode cX11_init 4 = .ok (.aload_n 0, 1) := by decide +kernel
theorem dX11_init_5 : decode cX11_init 5 = .ok (.new 9, 3) := by decide +kernel
theorem dX11_init_8 : decode cX11_init 8 = .ok (.dup, 1) := by decide +kernel
theorem dX11_init_9 : decode cX11_init 9 = .ok (.invokespecial 11, 3) := by decide +kernel
theorem dX11_init_12 : decode cX11_init 12 = .ok (.putfield 12, 3) := by decide +kernel
theorem dX11_init_15 : decode cX11_init 15 = .ok (.aload_n 0, 1) := by decide +kernel
theorem dX11_init_16 : decode cX11_init 16 = .ok (.new 16, 3) := by decide +kernel
theorem dX11_init_19 : decode cX11_init 19 = .ok (.dup, 1) := by decide +kernel
theorem dX11_init_20 : decode cX11_init 20 = .ok (.invokespecial 18, 3) := by decide +kernel
theorem dX11_init_23 : decode cX11_init 23 = .ok (.putfield 19, 3) := by decide +kernel
theorem dX11_init_26 : decode cX11_init 26 = .ok (.aload_n 0, 1) := by decide +kernel
theorem dX11_init_27 : decode cX11_init 27 = .ok (.new 23, 3) := by decide +kernel
theorem dX11_init_30 : decode cX11_init 30 = .ok (.dup, 1) := by decide +kernel
theorem dX11_init_31 : decode cX11_init 31 = .ok (.invokespecial 25, 3) := by decide +kernel
theorem dX11_init_34 : decode cX11_init 34 = .ok (.putfield 26, 3) := by decide +kernel
theorem dX11_init_37 : decode cX11_init 37 = .ok (.aload_n 0, 1) := by decide +kernel
theorem dX11_init_38 : decode cX11_init 38 = .ok (.new 30, 3) := by decide +kernel
theorem dX11_init_41 : decode cX11_init 41 = .ok (.dup, 1) := by decide +kernel
theorem dX11_init_42 : decode cX11_init 42 = .ok (.invokespecial 32, 3) := by decide +kernel
theorem dX11_init_45 : decode cX11_init 45 = .ok (.putfield 33, 3) := by decide +kernel
theorem dX11_init_48 : decode cX11_init 48 = .ok (.aload_n 0, 1) := by decide +kernel
theorem dX11_init_49 : decode cX11_init 49 = .ok (.new 37, 3) := by decide +kernel
theorem dX11_init_52 : decode cX11_init 52 = .ok (.dup, 1) := by decide +kernel
theorem dX11_init_53 : decode cX11_init 53 = .ok (.invokespecial 39, 3) := by decide +kernel
theorem dX11_init_56 : decode cX11_init 56 = .ok (.putfield 40, 3) := by decide +kernel
theorem dX11_init_59 : decode cX11_init 59 = .ok (.aload_n 0, 1) := by decide +kernel
theorem dX11_init_60 : decode cX11_init 60 = .ok (.new 44, 3) := by decide +kernel
theorem dX11_init_63 : decode cX11_init 63 = .ok (.dup, 1) := by decide +kernel
theorem dX11_init_64 : decode cX11_init 64 = .ok (.invokespecial 46, 3) := by decide +kernel
theorem dX11_init_67 : decode cX11_init 67 = .ok (.putfield 47, 3) := by decide +kernel
theorem dX11_init_70 : decode cX11_init 70 = .ok (.iconst 0, 1) := by decide +kernel
theorem dX11_init_71 : decode cX11_init 71 = .ok (.istore_n 1, 1) := by decide +kernel
theorem dX11_init_72 : decode cX11_init 72 = .ok (.iload_n 1, 1) := by decide +kernel
theorem dX11_init_73 : decode cX11_init 73 = .ok (.ldc 51, 2) := by decide +kernel
theorem dX11_init_75 : decode cX11_init 75 = .ok (.invokevirtual 53, 3) := by decide +kernel
theorem dX11_init_78 : decode cX11_init 78 = .ok (.if_icmp .ge 25, 3) := by decide +kernel
theorem dX11_init_81 : decode cX11_init 81 = .ok (.aload_n 0, 1) := by decide +kernel
theorem dX11_init_82 : decode cX11_init 82 = .ok (.getfield 19, 3) := by decide +kernel
theorem dX11_init_85 : decode cX11_init 85 = .ok (.getfield 59, 3) := by decide +kernel
theorem dX11_init_88 : decode cX11_init 88 = .ok (.ldc 51, 2) := by decide +kernel
theorem dX11_init_90 : decode cX11_init 90 = .ok (.iload_n 1, 1) := by decide +kernel
theorem dX11_init_91 : decode cX11_init 91 = .ok (.invokevirtual 63, 3) := by decide +kernel
theorem dX11_init_94 : decode cX11_init 94 = .ok (.invokevirtual 67, 3) := by decide +kernel
theorem dX11_init_97 : decode cX11_init 97 = .ok (.iinc 1 1, 3) := by decide +kernel
theorem dX11_init_100 : decode cX11_init 100 = .ok (.goto (-28), 3) := by decide +kernel
theorem dX11_init_103 : decode cX11_init 103 = .ok (.aload_n 0, 1) := by decide +kernel
theorem dX11_init_104 : decode cX11_init 104 = .ok (.getfield 19, 3) := by decide +kernel
theorem dX11_init_107 : decode cX11_init 107 = .ok (.invokevirtual 73, 3) := by decide +kernel
theorem dX11_init_110 : decode cX11_init 110 = .ok (.pop, 1) := by decide +kernel
theorem dX11_init_111 : decode cX11_init 111 = .ok (.aload_n 0, 1) := by decide +kernel
theorem dX11_init_112 : decode cX11_init 112 = .ok (.getfield 12, 3) := by decide +kernel
theorem dX11_init_115 : decode cX11_init 115 = .ok (.getfield 76, 3) := by decide +kernel
theorem dX11_init_118 : decode cX11_init 118 = .ok (.aload_n 0, 1) := by decide +kernel
theorem dX11_init_119 : decode cX11_init 119 = .ok (.getfield 19, 3) := by decide +kernel
theorem dX11_init_122 : decode cX11_init 122 = .ok (.invokevirtual 80, 3) := by decide +kernel
theorem dX11_init_125 : decode cX11_init 125 = .ok (.pop, 1) := by decide +kernel
theorem dX11_init_126 : decode cX11_init 126 = .ok (.return_, 1) := by decide +kernel
theorem dX11_man_0 : decode cX11_man 0 = .ok (.aload_n 0, 1) := by decide +kernel
theorem dX11_man_1 : decode cX11_man 1 = .ok (.getfield 12, 3) := by decide +kernel
theorem dX11_man_4 : decode cX11_man 4 = .ok (.getfield 86, 3) := by decide +kernel
theorem dX11_man_7 : decode cX11_man 7 = .ok (.iload_n 1, 1) := by decide +kernel
theorem dX11_man_8 : decode cX11_man 8 = .ok (.iload_n 2, 1) := by decide +kernel
theorem dX11_man_9 : decode cX11_man 9 = .ok (.iload_n 3, 1) := by decide +kernel
theorem dX11_man_10 : decode cX11_man 10 = .ok (.invokevirtual 89, 3) := by decide +kernel
theorem dX11_man_13 : decode cX11_man 13 = .ok (.ireturn, 1) := by decide +kernel
theorem dX11_part_0 : decode cX11_part 0 = .ok (.aload_n 0, 1) := by decide +kernel
theorem dX11_part_1 : decode cX11_part 1 = .ok (.getfield 12, 3) := by decide +kernel
theorem dX11_part_4 : decode cX11_part 4 = .ok (.getfield 86, 3) := by decide +kernel
theorem dX11_part_7 : decode cX11_part 7 = .ok (.iload_n 1, 1) := by decide +kernel
theorem dX11_part_8 : decode cX11_part 8 = .ok (.invokevirtual 93, 3) := by decide +kernel
theorem dX11_part_11 : decode cX11_part 11 = .ok (.ifCond .eq 23, 3) := by decide +kernel
theorem dX11_part_14 : decode cX11_part 14 = .ok (.iload_n 2, 1) := by decide +kernel
theorem dX11_part_15 : decode cX11_part 15 = .ok (.invokestatic 97, 3) := by decide +kernel
theorem dX11_part_18 : decode cX11_part 18 = .ok (.ifCond .eq 16, 3) := by decide +kernel
theorem dX11_part_21 : decode cX11_part 21 = .ok (.iload_n 3, 1) := by decide +kernel
theorem dX11_part_22 : decode cX11_part 22 = .ok (.sipush (-199), 3) := by decide +kernel
theorem dX11_part_25 : decode cX11_part 25 = .ok (.sipush 199, 3) := by decide +kernel
theorem dX11_part_28 : decode cX11_part 28 = .ok (.invokestatic 100, 3) := by decide +kernel
theorem dX11_part_31 : decode cX11_part 31 = .ok (.ifCond .ne 7, 3) := by decide +kernel
theorem dX11_part_34 : decode cX11_part 34 = .ok (.sipush (-1000), 3) := by decide +kernel
theorem dX11_part_37 : decode cX11_part 37 = .ok (.ireturn, 1) := by decide +kernel
theorem dX11_part_38 : decode cX11_part 38 = .ok (.aload_n 0, 1) := by decide +kernel
theorem dX11_part_39 : decode cX11_part 39 = .ok (.getfield 12, 3) := by decide +kernel
theorem dX11_part_42 : decode cX11_part 42 = .ok (.getfield 86, 3) := by decide +kernel
theorem dX11_part_45 : decode cX11_part 45 = .ok (.iload_n 1, 1) := by decide +kernel
theorem dX11_part_46 : decode cX11_part 46 = .ok (.iload_n 2, 1) := by decide +kernel
theorem dX11_part_47 : decode cX11_part 47 = .ok (.invokevirtual 104, 3) := by decide +kernel
theorem dX11_part_50 : decode cX11_part 50 = .ok (.istore 4, 2) := by decide +kernel
theorem dX11_part_52 : decode cX11_part 52 = .ok (.aload_n 0, 1) := by decide +kernel
theorem dX11_part_53 : decode cX11_part 53 = .ok (.getfield 12, 3) := by decide +kernel
theorem dX11_part_56 : decode cX11_part 56 = .ok (.getfield 86, 3) := by decide +kernel
theorem dX11_part_59 : decode cX11_part 59 = .ok (.getfield 108, 3) := by decide +kernel
theorem dX11_part_62 : decode cX11_part 62 = .ok (.iload_n 1, 1) := by decide +kernel
theorem dX11_part_63 : decode cX11_part 63 = .ok (.iconst 4, 1) := by decide +kernel
theorem dX11_part_64 : decode cX11_part 64 = .ok (.imul, 1) := by decide +kernel
theorem dX11_part_65 : decode cX11_part 65 = .ok (.iload_n 2, 1) := by decide +kernel
theorem dX11_part_66 : decode cX11_part 66 = .ok (.iadd, 1) := by decide +kernel
theorem dX11_part_67 : decode cX11_part 67 = .ok (.iload_n 3, 1) := by decide +kernel
theorem dX11_part_68 : decode cX11_part 68 = .ok (.iastore, 1) := by decide +kernel
theorem dX11_part_69 : decode cX11_part 69 = .ok (.iload 4, 2) := by decide +kernel
theorem dX11_part_71 : decode cX11_part 71 = .ok (.ireturn, 1) := by decide +kernel
theorem dX11_move_0 : decode cX11_move 0 = .ok (.aload_n 0, 1) := by decide +kernel
theorem dX11_move_1 : decode cX11_move 1 = .ok (.getfield 12, 3) := by decide +kernel
theorem dX11_move_4 : decode cX11_move 4 = .ok (.getfield 86, 3) := by decide +kernel
theorem dX11_move_7 : decode cX11_move 7 = .ok (.iload_n 1, 1) := by decide +kernel
theorem dX11_move_8 : decode cX11_move 8 = .ok (.invokevirtual 93, 3) := by decide +kernel
theorem dX11_move_11 : decode cX11_move 11 = .ok (.ifCond .ne 7, 3) := by decide +kernel
theorem dX11_move_14 : decode cX11_move 14 = .ok (.sipush (-1000), 3) := by decide +kernel
theorem dX11_move_17 : decode cX11_move 17 = .ok (.ireturn, 1) := by decide +kernel
theorem dX11_move_18 : decode cX11_move 18 = .ok (.iload_n 2, 1) := by decide +kernel
theorem dX11_move_19 : decode cX11_move 19 = .ok (.ifCond .ne 40, 3) := by decide +kernel
theorem dX11_move_22 : decode cX11_move 22 = .ok (.iload_n 3, 1) := by decide +kernel
theorem dX11_move_23 : decode cX11_move 23 = .ok (.invokestatic 112, 3) := by decide +kernel
theorem dX11_move_26 : decode cX11_move 26 = .ok (.ifCond .eq 33, 3) := by decide +kernel
theorem dX11_move_29 : decode cX11_move 29 = .ok (.aload_n 0, 1) := by decide +kernel
theorem dX11_move_30 : decode cX11_move 30 = .ok (.getfield 12, 3) := by decide +kernel
theorem dX11_move_33 : decode cX11_move 33 = .ok (.getfield 86, 3) := by decide +kernel
theorem dX11_move_36 : decode cX11_move 36 = .ok (.getfield 115, 3) := by decide +kernel
theorem dX11_move_39 : decode cX11_move 39 = .ok (.iload_n 1, 1) := by decide +kernel
theorem dX11_move_40 : decode cX11_move 40 = .ok (.iaload, 1) := by decide +kernel
theorem dX11_move_41 : decode cX11_move 41 = .ok (.istore 4, 2) := by decide +kernel
theorem dX11_move_43 : decode cX11_move 43 = .ok (.aload_n 0, 1) := by decide +kernel
theorem dX11_move_44 : decode cX11_move 44 = .ok (.getfield 12, 3) := by decide +kernel
theorem dX11_move_47 : decode cX11_move 47 = .ok (.getfield 86, 3) := by decide +kernel
theorem dX11_move_50 : decode cX11_move 50 = .ok (.getfield 115, 3) := by decide +kernel
theorem dX11_move_53 : decode cX11_move 53 = .ok (.iload_n 1, 1) := by decide +kernel
theorem dX11_move_54 : decode cX11_move 54 = .ok (.iload_n 3, 1) := by decide +kernel
theorem dX11_move_55 : decode cX11_move 55 = .ok (.iastore, 1) := by decide +kernel
theorem dX11_move_56 : decode cX11_move 56 = .ok (.iload 4, 2) := by decide +kernel
theorem dX11_move_58 : decode cX11_move 58 = .ok (.ireturn, 1) := by decide +kernel
theorem dX11_move_59 : decode cX11_move 59 = .ok (.iload_n 2, 1) := by decide +kernel
theorem dX11_move_60 : decode cX11_move 60 = .ok (.iconst 1, 1) := by decide +kernel
theorem dX11_move_61 : decode cX11_move 61 = .ok (.if_icmp .ne 40, 3) := by decide +kernel
theorem dX11_move_64 : decode cX11_move 64 = .ok (.iload_n 3, 1) := by decide +kernel
theorem dX11_move_65 : decode cX11_move 65 = .ok (.invokestatic 118, 3) := by decide +kernel
theorem dX11_move_68 : decode cX11_move 68 = .ok (.ifCond .eq 33, 3) := by decide +kernel
theorem dX11_move_71 : decode cX11_move 71 = .ok (.aload_n 0, 1) := by decide +kernel
theorem dX11_move_72 : decode cX11_move 72 = .ok (.getfield 12, 3) := by decide +kernel
theorem dX11_move_75 : decode cX11_move 75 = .ok (.getfield 86, 3) := by decide +kernel
theorem dX11_move_78 : decode cX11_move 78 = .ok (.getfield 121, 3) := by decide +kernel
theorem dX11_move_81 : decode cX11_move 81 = .ok (.iload_n 1, 1) := by decide +kernel
theorem dX11_move_82 : decode cX11_move 82 = .ok (.iaload, 1) := by decide +kernel
theorem dX11_move_83 : decode cX11_move 83 = .ok (.istore 4, 2) := by decide +kernel
theorem dX11_move_85 : decode cX11_move 85 = .ok (.aload_n 0, 1) := by decide +kernel
theorem dX11_move_86 : decode cX11_move 86 = .ok (.getfield 12, 3) := by decide +kernel
theorem dX11_move_89 : decode cX11_move 89 = .ok (.getfield 86, 3) := by decide +kernel
theorem dX11_move_92 : decode cX11_move 92 = .ok (.getfield 121, 3) := by decide +kernel
theorem dX11_move_95 : decode cX11_move 95 = .ok (.iload_n 1, 1) := by decide +kernel
theorem dX11_move_96 : decode cX11_move 96 = .ok (.iload_n 3, 1) := by decide +kernel
theorem dX11_move_97 : decode cX11_move 97 = .ok (.iastore, 1) := by decide +kernel
theorem dX11_move_98 : decode cX11_move 98 = .ok (.iload 4, 2) := by decide +kernel
theorem dX11_move_100 : decode cX11_move 100 = .ok (.ireturn, 1) := by decide +kernel
theorem dX11_move_101 : decode cX11_move 101 = .ok (.sipush (-1000), 3) := by decide +kernel
theorem dX11_move_104 : decode cX11_move 104 = .ok (.ireturn, 1) := by decide +kernel
theorem dX11_front_0 : decode cX11_front 0 = .ok (.aload_n 0, 1) := by decide +kernel
theorem dX11_front_1 : decode cX11_front 1 = .ok (.getfield 12, 3) := by decide +kernel
theorem dX11_front_4 : decode cX11_front 4 = .ok (.getfield 86, 3) := by decide +kernel
theorem dX11_front_7 : decode cX11_front 7 = .ok (.iload_n 1, 1) := by decide +kernel
theorem dX11_front_8 : decode cX11_front 8 = .ok (.invokevirtual 93, 3) := by decide +kernel
theorem dX11_front_11 : decode cX11_front 11 = .ok (.ifCond .eq 10, 3) := by decide +kernel
theorem dX11_front_14 : decode cX11_front 14 = .ok (.iload_n 2, 1) := by decide +kernel
theorem dX11_front_15 : decode cX11_front 15 = .ok (.invokestatic 124, 3) := by decide +kernel
theorem dX11_front_18 : decode cX11_front 18 = .ok (.ifCond .ne 7, 3) := by decide +kernel
theorem dX11_front_21 : decode cX11_front 21 = .ok (.ldc2_w 127, 3) := by decide +kernel
theorem dX11_front_24 : decode cX11_front 24 = .ok (.lreturn, 1) := by decide +kernel
theorem dX11_front_25 : decode cX11_front 25 = .ok (.aload_n 0, 1) := by decide +kernel
theorem dX11_front_26 : decode cX11_front 26 = .ok (.getfield 12, 3) := by decide +kernel
theorem dX11_front_29 : decode cX11_front 29 = .ok (.aload_n 0, 1) := by decide +kernel
theorem dX11_front_30 : decode cX11_front 30 = .ok (.getfield 129, 3) := by decide +kernel
theorem dX11_front_33 : decode cX11_front 33 = .ok (.invokevirtual 133, 3) := by decide +kernel
theorem dX11_front_36 : decode cX11_front 36 = .ok (.iload_n 3, 1) := by decide +kernel
theorem dX11_front_37 : decode cX11_front 37 = .ok (.tableswitch 63 0 2 #[27, 38, 52], 27) := by decide +kernel
theorem dX11_front_64 : decode cX11_front 64 = .ok (.aload_n 0, 1) := by decide +kernel
theorem dX11_front_65 : decode cX11_front 65 = .ok (.getfield 12, 3) := by decide +kernel
theorem dX11_front_68 : decode cX11_front 68 = .ok (.iload_n 1, 1) := by decide +kernel
theorem dX11_front_69 : decode cX11_front 69 = .ok (.iload_n 2, 1) := by decide +kernel
theorem dX11_front_70 : decode cX11_front 70 = .ok (.invokevirtual 136, 3) := by decide +kernel
theorem dX11_front_73 : decode cX11_front 73 = .ok (.i2l, 1) := by decide +kernel
theorem dX11_front_74 : decode cX11_front 74 = .ok (.lreturn, 1) := by decide +kernel
theorem dX11_front_75 : decode cX11_front 75 = .ok (.aload_n 0, 1) := by decide +kernel
theorem dX11_front_76 : decode cX11_front 76 = .ok (.getfield 12, 3) := by decide +kernel
theorem dX11_front_79 : decode cX11_front 79 = .ok (.iload_n 1, 1) := by decide +kernel
theorem dX11_front_80 : decode cX11_front 80 = .ok (.iload_n 2, 1) := by decide +kernel
theorem dX11_front_81 : decode cX11_front 81 = .ok (.invokevirtual 139, 3) := by decide +kernel
theorem dX11_front_84 : decode cX11_front 84 = .ok (.invokestatic 142, 3) := by decide +kernel
theorem dX11_front_87 : decode cX11_front 87 = .ok (.i2l, 1) := by decide +kernel
theorem dX11_front_88 : decode cX11_front 88 = .ok (.lreturn, 1) := by decide +kernel
theorem dX11_front_89 : decode cX11_front 89 = .ok (.aload_n 0, 1) := by decide +kernel
theorem dX11_front_90 : decode cX11_front 90 = .ok (.getfield 12, 3) := by decide +kernel
theorem dX11_front_93 : decode cX11_front 93 = .ok (.iload_n 1, 1) := by decide +kernel
theorem dX11_front_94 : decode cX11_front 94 = .ok (.iload_n 2, 1) := by decide +kernel
theorem dX11_front_95 : decode cX11_front 95 = .ok (.invokevirtual 146, 3) := by decide +kernel
theorem dX11_front_98 : decode cX11_front 98 = .ok (.i2l, 1) := by decide +kernel
theorem dX11_front_99 : decode cX11_front 99 = .ok (.lreturn, 1) := by decide +kernel
theorem dX11_front_100 : decode cX11_front 100 = .ok (.ldc2_w 127, 3) := by decide +kernel
theorem dX11_front_103 : decode cX11_front 103 = .ok (.lreturn, 1) := by decide +kernel
theorem dX11_camera_0 : decode cX11_camera 0 = .ok (.aload_n 0, 1) := by decide +kernel
theorem dX11_camera_1 : decode cX11_camera 1 = .ok (.getfield 12, 3) := by decide +kernel
theorem dX11_camera_4 : decode cX11_camera 4 = .ok (.getfield 149, 3) := by decide +kernel
theorem dX11_camera_7 : decode cX11_camera 7 = .ok (.iload_n 1, 1) := by decide +kernel
theorem dX11_camera_8 : decode cX11_camera 8 = .ok (.iload_n 2, 1) := by decide +kernel
theorem dX11_camera_9 : decode cX11_camera 9 = .ok (.iload_n 3, 1) := by decide +kernel
theorem dX11_camera_10 : decode cX11_camera 10 = .ok (.invokevirtual 153, 3) := by decide +kernel
theorem dX11_camera_13 : decode cX11_camera 13 = .ok (.ireturn, 1) := by decide +kernel
theorem dX11_frame_0 : decode cX11_frame 0 = .ok (.aload_n 0, 1) := by decide +kernel
theorem dX11_frame_1 : decode cX11_frame 1 = .ok (.getfield 12, 3) := by decide +kernel
theorem dX11_frame_4 : decode cX11_frame 4 = .ok (.getfield 149, 3) := by decide +kernel
theorem dX11_frame_7 : decode cX11_frame 7 = .ok (.iload_n 1, 1) := by decide +kernel
theorem dX11_frame_8 : decode cX11_frame 8 = .ok (.invokevirtual 156, 3) := by decide +kernel
theorem dX11_frame_11 : decode cX11_frame 11 = .ok (.ifCond .eq 10, 3) := by decide +kernel
theorem dX11_frame_14 : decode cX11_frame 14 = .ok (.iload_n 2, 1) := by decide +kernel
theorem dX11_frame_15 : decode cX11_frame 15 = .ok (.invokestatic 124, 3) := by decide +kernel
theorem dX11_frame_18 : decode cX11_frame 18 = .ok (.ifCond .ne 6, 3) := by decide +kernel
theorem dX11_frame_21 : decode cX11_frame 21 = .ok (.bipush (-2), 2) := by decide +kernel
theorem dX11_frame_23 : decode cX11_frame 23 = .ok (.ireturn, 1) := by decide +kernel
theorem dX11_frame_24 : decode cX11_frame 24 = .ok (.aload_n 0, 1) := by decide +kernel
theorem dX11_frame_25 : decode cX11_frame 25 = .ok (.getfield 12, 3) := by decide +kernel
theorem dX11_frame_28 : decode cX11_frame 28 = .ok (.getfield 149, 3) := by decide +kernel
theorem dX11_frame_31 : decode cX11_frame 31 = .ok (.iload_n 1, 1) := by decide +kernel
theorem dX11_frame_32 : decode cX11_frame 32 = .ok (.iload_n 2, 1) := by decide +kernel
theorem dX11_frame_33 : decode cX11_frame 33 = .ok (.invokevirtual 157, 3) := by decide +kernel
theorem dX11_frame_36 : decode cX11_frame 36 = .ok (.ireturn, 1) := by decide +kernel
theorem dX11_sees_0 : decode cX11_sees 0 = .ok (.aload_n 0, 1) := by decide +kernel
theorem dX11_sees_1 : decode cX11_sees 1 = .ok (.getfield 12, 3) := by decide +kernel
theorem dX11_sees_4 : decode cX11_sees 4 = .ok (.getfield 149, 3) := by decide +kernel
theorem dX11_sees_7 : decode cX11_sees 7 = .ok (.iload_n 1, 1) := by decide +kernel
theorem dX11_sees_8 : decode cX11_sees 8 = .ok (.invokevirtual 156, 3) := by decide +kernel
theorem dX11_sees_11 : decode cX11_sees 11 = .ok (.ifCond .eq 14, 3) := by decide +kernel
theorem dX11_sees_14 : decode cX11_sees 14 = .ok (.iload_n 2, 1) := by decide +kernel
theorem dX11_sees_15 : decode cX11_sees 15 = .ok (.ldc 160, 2) := by decide +kernel
theorem dX11_sees_17 : decode cX11_sees 17 = .ok (.ldc 161, 2) := by decide +kernel
theorem dX11_sees_19 : decode cX11_sees 19 = .ok (.invokestatic 100, 3) := by decide +kernel
theorem dX11_sees_22 : decode cX11_sees 22 = .ok (.ifCond .ne 7, 3) := by decide +kernel
theorem dX11_sees_25 : decode cX11_sees 25 = .ok (.ldc2_w 127, 3) := by decide +kernel
theorem dX11_sees_28 : decode cX11_sees 28 = .ok (.lreturn, 1) := by decide +kernel
theorem dX11_sees_29 : decode cX11_sees 29 = .ok (.aload_n 0, 1) := by decide +kernel
theorem dX11_sees_30 : decode cX11_sees 30 = .ok (.getfield 12, 3) := by decide +kernel
theorem dX11_sees_33 : decode cX11_sees 33 = .ok (.getfield 149, 3) := by decide +kernel
theorem dX11_sees_36 : decode cX11_sees 36 = .ok (.iload_n 1, 1) := by decide +kernel
theorem dX11_sees_37 : decode cX11_sees 37 = .ok (.iload_n 2, 1) := by decide +kernel
theorem dX11_sees_38 : decode cX11_sees 38 = .ok (.invokevirtual 162, 3) := by decide +kernel
theorem dX11_sees_41 : decode cX11_sees 41 = .ok (.i2l, 1) := by decide +kernel
theorem dX11_sees_42 : decode cX11_sees 42 = .ok (.lreturn, 1) := by decide +kernel
theorem dX11_crosser_0 : decode cX11_crosser 0 = .ok (.aload_n 0, 1) := by decide +kernel
theorem dX11_crosser_1 : decode cX11_crosser 1 = .ok (.getfield 12, 3) := by decide +kernel
theorem dX11_crosser_4 : decode cX11_crosser 4 = .ok (.getfield 165, 3) := by decide +kernel
theorem dX11_crosser_7 : decode cX11_crosser 7 = .ok (.iload_n 1, 1) := by decide +kernel
theorem dX11_crosser_8 : decode cX11_crosser 8 = .ok (.iload_n 2, 1) := by decide +kernel
theorem dX11_crosser_9 : decode cX11_crosser 9 = .ok (.invokevirtual 169, 3) := by decide +kernel
theorem dX11_crosser_12 : decode cX11_crosser 12 = .ok (.ireturn, 1) := by decide +kernel
theorem dX11_feed_0 : decode cX11_feed 0 = .ok (.iload_n 1, 1) := by decide +kernel
theorem dX11_feed_1 : decode cX11_feed 1 = .ok (.iconst 1, 1) := by decide +kernel
theorem dX11_feed_2 : decode cX11_feed 2 = .ok (.bipush 8, 2) := by decide +kernel
theorem dX11_feed_4 : decode cX11_feed 4 = .ok (.invokestatic 100, 3) := by decide +kernel
theorem dX11_feed_7 : decode cX11_feed 7 = .ok (.ifCond .ne 6, 3) := by decide +kernel
theorem dX11_feed_10 : decode cX11_feed 10 = .ok (.bipush (-2), 2) := by decide +kernel
theorem dX11_feed_12 : decode cX11_feed 12 = .ok (.ireturn, 1) := by decide +kernel
theorem dX11_feed_13 : decode cX11_feed 13 = .ok (.aload_n 0, 1) := by decide +kernel
theorem dX11_feed_14 : decode cX11_feed 14 = .ok (.getfield 19, 3) := by decide +kernel
theorem dX11_feed_17 : decode cX11_feed 17 = .ok (.getfield 59, 3) := by decide +kernel
theorem dX11_feed_20 : decode cX11_feed 20 = .ok (.getfield 173, 3) := by decide +kernel
theorem dX11_feed_23 : decode cX11_feed 23 = .ok (.iload_n 1, 1) := by decide +kernel
theorem dX11_feed_24 : decode cX11_feed 24 = .ok (.iadd, 1) := by decide +kernel
theorem dX11_feed_25 : decode cX11_feed 25 = .ok (.sipush 160, 3) := by decide +kernel
theorem dX11_feed_28 : decode cX11_feed 28 = .ok (.if_icmp .le 6, 3) := by decide +kernel
theorem dX11_feed_31 : decode cX11_feed 31 = .ok (.bipush (-4), 2) := by decide +kernel
theorem dX11_feed_33 : decode cX11_feed 33 = .ok (.ireturn, 1) := by decide +kernel
theorem dX11_feed_34 : decode cX11_feed 34 = .ok (.iconst 0, 1) := by decide +kernel
theorem dX11_feed_35 : decode cX11_feed 35 = .ok (.istore 4, 2) := by decide +kernel
theorem dX11_feed_37 : decode cX11_feed 37 = .ok (.iload 4, 2) := by decide +kernel
theorem dX11_feed_39 : decode cX11_feed 39 = .ok (.iload_n 1, 1) := by decide +kernel
theorem dX11_feed_40 : decode cX11_feed 40 = .ok (.if_icmp .ge 31, 3) := by decide +kernel
theorem dX11_feed_43 : decode cX11_feed 43 = .ok (.aload_n 0, 1) := by decide +kernel
theorem dX11_feed_44 : decode cX11_feed 44 = .ok (.getfield 19, 3) := by decide +kernel
theorem dX11_feed_47 : decode cX11_feed 47 = .ok (.getfield 59, 3) := by decide +kernel
theorem dX11_feed_50 : decode cX11_feed 50 = .ok (.lload_n 2, 1) := by decide +kernel
theorem dX11_feed_51 : decode cX11_feed 51 = .ok (.bipush 8, 2) := by decide +kernel
theorem dX11_feed_53 : decode cX11_feed 53 = .ok (.iload 4, 2) := by decide +kernel
theorem dX11_feed_55 : decode cX11_feed 55 = .ok (.imul, 1) := by decide +kernel
theorem dX11_feed_56 : decode cX11_feed 56 = .ok (.lushr, 1) := by decide +kernel
theorem dX11_feed_57 : decode cX11_feed 57 = .ok (.l2i, 1) := by decide +kernel
theorem dX11_feed_58 : decode cX11_feed 58 = .ok (.sipush 255, 3) := by decide +kernel
theorem dX11_feed_61 : decode cX11_feed 61 = .ok (.iand, 1) := by decide +kernel
theorem dX11_feed_62 : decode cX11_feed 62 = .ok (.invokevirtual 67, 3) := by decide +kernel
theorem dX11_feed_65 : decode cX11_feed 65 = .ok (.iinc 4 1, 3) := by decide +kernel
theorem dX11_feed_68 : decode cX11_feed 68 = .ok (.goto (-31), 3) := by decide +kernel
theorem dX11_feed_71 : decode cX11_feed 71 = .ok (.aload_n 0, 1) := by decide +kernel
theorem dX11_feed_72 : decode cX11_feed 72 = .ok (.getfield 19, 3) := by decide +kernel
theorem dX11_feed_75 : decode cX11_feed 75 = .ok (.getfield 59, 3) := by decide +kernel
theorem dX11_feed_78 : decode cX11_feed 78 = .ok (.getfield 173, 3) := by decide +kernel
theorem dX11_feed_81 : decode cX11_feed 81 = .ok (.ireturn, 1) := by decide +kernel
theorem dX11_text_0 : decode cX11_text 0 = .ok (.aload_n 0, 1) := by decide +kernel
theorem dX11_text_1 : decode cX11_text 1 = .ok (.getfield 12, 3) := by decide +kernel
theorem dX11_text_4 : decode cX11_text 4 = .ok (.getfield 76, 3) := by decide +kernel
theorem dX11_text_7 : decode cX11_text 7 = .ok (.getfield 176, 3) := by decide +kernel
theorem dX11_text_10 : decode cX11_text 10 = .ok (.bipush 6, 2) := by decide +kernel
theorem dX11_text_12 : decode cX11_text 12 = .ok (.if_icmp .lt 6, 3) := by decide +kernel
theorem dX11_text_15 : decode cX11_text 15 = .ok (.bipush (-4), 2) := by decide +kernel
theorem dX11_text_17 : decode cX11_text 17 = .ok (.ireturn, 1) := by decide +kernel
theorem dX11_text_18 : decode cX11_text 18 = .ok (.aload_n 0, 1) := by decide +kernel
theorem dX11_text_19 : decode cX11_text 19 = .ok (.getfield 19, 3) := by decide +kernel
theorem dX11_text_22 : decode cX11_text 22 = .ok (.invokevirtual 73, 3) := by decide +kernel
theorem dX11_text_25 : decode cX11_text 25 = .ok (.istore_n 1, 1) := by decide +kernel
theorem dX11_text_26 : decode cX11_text 26 = .ok (.iload_n 1, 1) := by decide +kernel
theorem dX11_text_27 : decode cX11_text 27 = .ok (.iconst (-1), 1) := by decide +kernel
theorem dX11_text_28 : decode cX11_text 28 = .ok (.if_icmp .eq 8, 3) := by decide +kernel
theorem dX11_text_31 : decode cX11_text 31 = .ok (.bipush (-100), 2) := by decide +kernel
theorem dX11_text_33 : decode cX11_text 33 = .ok (.iload_n 1, 1) := by decide +kernel
theorem dX11_text_34 : decode cX11_text 34 = .ok (.isub, 1) := by decide +kernel
theorem dX11_text_35 : decode cX11_text 35 = .ok (.ireturn, 1) := by decide +kernel
theorem dX11_text_36 : decode cX11_text 36 = .ok (.aload_n 0, 1) := by decide +kernel
theorem dX11_text_37 : decode cX11_text 37 = .ok (.getfield 12, 3) := by decide +kernel
theorem dX11_text_40 : decode cX11_text 40 = .ok (.getfield 76, 3) := by decide +kernel
theorem dX11_text_43 : decode cX11_text 43 = .ok (.aload_n 0, 1) := by decide +kernel
theorem dX11_text_44 : decode cX11_text 44 = .ok (.getfield 19, 3) := by decide +kernel
theorem dX11_text_47 : decode cX11_text 47 = .ok (.invokevirtual 80, 3) := by decide +kernel
theorem dX11_text_50 : decode cX11_text 50 = .ok (.ireturn, 1) := by decide +kernel
theorem dX11_force_0 : decode cX11_force 0 = .ok (.aload_n 0, 1) := by decide +kernel
theorem dX11_force_1 : decode cX11_force 1 = .ok (.getfield 12, 3) := by decide +kernel
theorem dX11_force_4 : decode cX11_force 4 = .ok (.getfield 76, 3) := by decide +kernel
theorem dX11_force_7 : decode cX11_force 7 = .ok (.iload_n 1, 1) := by decide +kernel
theorem dX11_force_8 : decode cX11_force 8 = .ok (.invokevirtual 177, 3) := by decide +kernel
theorem dX11_force_11 : decode cX11_force 11 = .ok (.ifCond .ne 6, 3) := by decide +kernel
theorem dX11_force_14 : decode cX11_force 14 = .ok (.bipush (-2), 2) := by decide +kernel
theorem dX11_force_16 : decode cX11_force 16 = .ok (.ireturn, 1) := by decide +kernel
theorem dX11_force_17 : decode cX11_force 17 = .ok (.aload_n 0, 1) := by decide +kernel
theorem dX11_force_18 : decode cX11_force 18 = .ok (.getfield 12, 3) := by decide +kernel
theorem dX11_force_21 : decode cX11_force 21 = .ok (.getfield 76, 3) := by decide +kernel
theorem dX11_force_24 : decode cX11_force 24 = .ok (.getfield 178, 3) := by decide +kernel
theorem dX11_force_27 : decode cX11_force 27 = .ok (.istore_n 2, 1) := by decide +kernel
theorem dX11_force_28 : decode cX11_force 28 = .ok (.aload_n 0, 1) := by decide +kernel
theorem dX11_force_29 : decode cX11_force 29 = .ok (.getfield 12, 3) := by decide +kernel
theorem dX11_force_32 : decode cX11_force 32 = .ok (.getfield 76, 3) := by decide +kernel
theorem dX11_force_35 : decode cX11_force 35 = .ok (.iload_n 1, 1) := by decide +kernel
theorem dX11_force_36 : decode cX11_force 36 = .ok (.putfield 178, 3) := by decide +kernel
theorem dX11_force_39 : decode cX11_force 39 = .ok (.iload_n 2, 1) := by decide +kernel
theorem dX11_force_40 : decode cX11_force 40 = .ok (.ireturn, 1) := by decide +kernel
theorem dX11_says_0 : decode cX11_says 0 = .ok (.aload_n 0, 1) := by decide +kernel
theorem dX11_says_1 : decode cX11_says 1 = .ok (.getfield 12, 3) := by decide +kernel
theorem dX11_says_4 : decode cX11_says 4 = .ok (.getfield 86, 3) := by decide +kernel
theorem dX11_says_7 : decode cX11_says 7 = .ok (.iload_n 1, 1) := by decide +kernel
theorem dX11_says_8 : decode cX11_says 8 = .ok (.invokevirtual 93, 3) := by decide +kernel
theorem dX11_says_11 : decode cX11_says 11 = .ok (.ifCond .eq 27, 3) := by decide +kernel
theorem dX11_says_14 : decode cX11_says 14 = .ok (.iload_n 2, 1) := by decide +kernel
theorem dX11_says_15 : decode cX11_says 15 = .ok (.invokestatic 97, 3) := by decide +kernel
theorem dX11_says_18 : decode cX11_says 18 = .ok (.ifCond .eq 20, 3) := by decide +kernel
theorem dX11_says_21 : decode cX11_says 21 = .ok (.iload_n 3, 1) := by decide +kernel
theorem dX11_says_22 : decode cX11_says 22 = .ok (.invokestatic 124, 3) := by decide +kernel
theorem dX11_says_25 : decode cX11_says 25 = .ok (.ifCond .eq 13, 3) := by decide +kernel
theorem dX11_says_28 : decode cX11_says 28 = .ok (.iload 4, 2) := by decide +kernel
theorem dX11_says_30 : decode cX11_says 30 = .ok (.iconst 0, 1) := by decide +kernel
theorem dX11_says_31 : decode cX11_says 31 = .ok (.iconst 2, 1) := by decide +kernel
theorem dX11_says_32 : decode cX11_says 32 = .ok (.invokestatic 100, 3) := by decide +kernel
theorem dX11_says_35 : decode cX11_says 35 = .ok (.ifCond .ne 7, 3) := by decide +kernel
theorem dX11_says_38 : decode cX11_says 38 = .ok (.ldc2_w 127, 3) := by decide +kernel
theorem dX11_says_41 : decode cX11_says 41 = .ok (.lreturn, 1) := by decide +kernel
theorem dX11_says_42 : decode cX11_says 42 = .ok (.aload_n 0, 1) := by decide +kernel
theorem dX11_says_43 : decode cX11_says 43 = .ok (.getfield 12, 3) := by decide +kernel
theorem dX11_says_46 : decode cX11_says 46 = .ok (.aload_n 0, 1) := by decide +kernel
theorem dX11_says_47 : decode cX11_says 47 = .ok (.getfield 129, 3) := by decide +kernel
theorem dX11_says_50 : decode cX11_says 50 = .ok (.invokevirtual 133, 3) := by decide +kernel
theorem dX11_says_53 : decode cX11_says 53 = .ok (.aload_n 0, 1) := by decide +kernel
theorem dX11_says_54 : decode cX11_says 54 = .ok (.getfield 12, 3) := by decide +kernel
theorem dX11_says_57 : decode cX11_says 57 = .ok (.iload_n 1, 1) := by decide +kernel
theorem dX11_says_58 : decode cX11_says 58 = .ok (.iload_n 2, 1) := by decide +kernel
theorem dX11_says_59 : decode cX11_says 59 = .ok (.iload_n 3, 1) := by decide +kernel
theorem dX11_says_60 : decode cX11_says 60 = .ok (.iload 4, 2) := by decide +kernel
theorem dX11_says_62 : decode cX11_says 62 = .ok (.invokevirtual 181, 3) := by decide +kernel
theorem dX11_says_65 : decode cX11_says 65 = .ok (.i2l, 1) := by decide +kernel
theorem dX11_says_66 : decode cX11_says 66 = .ok (.lreturn, 1) := by decide +kernel
theorem dX11_width_0 : decode cX11_width 0 = .ok (.iload_n 1, 1) := by decide +kernel
theorem dX11_width_1 : decode cX11_width 1 = .ok (.invokestatic 185, 3) := by decide +kernel
theorem dX11_width_4 : decode cX11_width 4 = .ok (.ifCond .ne 6, 3) := by decide +kernel
theorem dX11_width_7 : decode cX11_width 7 = .ok (.bipush (-2), 2) := by decide +kernel
theorem dX11_width_9 : decode cX11_width 9 = .ok (.ireturn, 1) := by decide +kernel
theorem dX11_width_10 : decode cX11_width 10 = .ok (.aload_n 0, 1) := by decide +kernel
theorem dX11_width_11 : decode cX11_width 11 = .ok (.getfield 129, 3) := by decide +kernel
theorem dX11_width_14 : decode cX11_width 14 = .ok (.istore_n 2, 1) := by decide +kernel
theorem dX11_width_15 : decode cX11_width 15 = .ok (.aload_n 0, 1) := by decide +kernel
theorem dX11_width_16 : decode cX11_width 16 = .ok (.iload_n 1, 1) := by decide +kernel
theorem dX11_width_17 : decode cX11_width 17 = .ok (.putfield 129, 3) := by decide +kernel
theorem dX11_width_20 : decode cX11_width 20 = .ok (.iload_n 2, 1) := by decide +kernel
theorem dX11_width_21 : decode cX11_width 21 = .ok (.ireturn, 1) := by decide +kernel
theorem dX11_call_0 : decode cX11_call 0 = .ok (.aload_n 0, 1) := by decide +kernel
theorem dX11_call_1 : decode cX11_call 1 = .ok (.getfield 12, 3) := by decide +kernel
theorem dX11_call_4 : decode cX11_call 4 = .ok (.getfield 86, 3) := by decide +kernel
theorem dX11_call_7 : decode cX11_call 7 = .ok (.astore 6, 2) := by decide +kernel
theorem dX11_call_9 : decode cX11_call 9 = .ok (.iload_n 1, 1) := by decide +kernel
theorem dX11_call_10 : decode cX11_call 10 = .ok (.iconst 0, 1) := by decide +kernel
theorem dX11_call_11 : decode cX11_call 11 = .ok (.iconst 5, 1) := by decide +kernel
theorem dX11_call_12 : decode cX11_call 12 = .ok (.invokestatic 100, 3) := by decide +kernel
theorem dX11_call_15 : decode cX11_call 15 = .ok (.ifCond .eq 26, 3) := by decide +kernel
theorem dX11_call_18 : decode cX11_call 18 = .ok (.aload 6, 2) := by decide +kernel
theorem dX11_call_20 : decode cX11_call 20 = .ok (.iload_n 2, 1) := by decide +kernel
theorem dX11_call_21 : decode cX11_call 21 = .ok (.invokevirtual 93, 3) := by decide +kernel
theorem dX11_call_24 : decode cX11_call 24 = .ok (.ifCond .eq 17, 3) := by decide +kernel
theorem dX11_call_27 : decode cX11_call 27 = .ok (.aload 6, 2) := by decide +kernel
theorem dX11_call_29 : decode cX11_call 29 = .ok (.iload_n 3, 1) := by decide +kernel
theorem dX11_call_30 : decode cX11_call 30 = .ok (.invokevirtual 93, 3) := by decide +kernel
theorem dX11_call_33 : decode cX11_call 33 = .ok (.ifCond .eq 8, 3) := by decide +kernel
theorem dX11_call_36 : decode cX11_call 36 = .ok (.iload_n 2, 1) := by decide +kernel
theorem dX11_call_37 : decode cX11_call 37 = .ok (.iload_n 3, 1) := by decide +kernel
theorem dX11_call_38 : decode cX11_call 38 = .ok (.if_icmp .ne 6, 3) := by decide +kernel
theorem dX11_call_41 : decode cX11_call 41 = .ok (.bipush (-2), 2) := by decide +kernel
theorem dX11_call_43 : decode cX11_call 43 = .ok (.ireturn, 1) := by decide +kernel
theorem dX11_call_44 : decode cX11_call 44 = .ok (.iload 4, 2) := by decide +kernel
theorem dX11_call_46 : decode cX11_call 46 = .ok (.invokestatic 124, 3) := by decide +kernel
theorem dX11_call_49 : decode cX11_call 49 = .ok (.ifCond .eq 44, 3) := by decide +kernel
theorem dX11_call_52 : decode cX11_call 52 = .ok (.iload 5, 2) := by decide +kernel
theorem dX11_call_54 : decode cX11_call 54 = .ok (.ifCond .lt 39, 3) := by decide +kernel
theorem dX11_call_57 : decode cX11_call 57 = .ok (.aload_n 0, 1) := by decide +kernel
theorem dX11_call_58 : decode cX11_call 58 = .ok (.getfield 12, 3) := by decide +kernel
theorem dX11_call_61 : decode cX11_call 61 = .ok (.getfield 149, 3) := by decide +kernel
theorem dX11_call_64 : decode cX11_call 64 = .ok (.iload 5, 2) := by decide +kernel
theorem dX11_call_66 : decode cX11_call 66 = .ok (.bipush 10, 2) := by decide +kernel
theorem dX11_call_68 : decode cX11_call 68 = .ok (.idiv, 1) := by decide +kernel
theorem dX11_call_69 : decode cX11_call 69 = .ok (.invokevirtual 156, 3) := by decide +kernel
theorem dX11_call_72 : decode cX11_call 72 = .ok (.ifCond .eq 21, 3) := by decide +kernel
theorem dX11_call_75 : decode cX11_call 75 = .ok (.aload_n 0, 1) := by decide +kernel
theorem dX11_call_76 : decode cX11_call 76 = .ok (.getfield 12, 3) := by decide +kernel
theorem dX11_call_79 : decode cX11_call 79 = .ok (.getfield 165, 3) := by decide +kernel
theorem dX11_call_82 : decode cX11_call 82 = .ok (.iload 5, 2) := by decide +kernel
theorem dX11_call_84 : decode cX11_call 84 = .ok (.bipush 10, 2) := by decide +kernel
theorem dX11_call_86 : decode cX11_call 86 = .ok (.irem, 1) := by decide +kernel
theorem dX11_call_87 : decode cX11_call 87 = .ok (.invokevirtual 188, 3) := by decide +kernel
theorem dX11_call_90 : decode cX11_call 90 = .ok (.ifCond .ne 6, 3) := by decide +kernel
theorem dX11_call_93 : decode cX11_call 93 = .ok (.bipush (-2), 2) := by decide +kernel
theorem dX11_call_95 : decode cX11_call 95 = .ok (.ireturn, 1) := by decide +kernel
theorem dX11_call_96 : decode cX11_call 96 = .ok (.aload_n 0, 1) := by decide +kernel
theorem dX11_call_97 : decode cX11_call 97 = .ok (.getfield 12, 3) := by decide +kernel
theorem dX11_call_100 : decode cX11_call 100 = .ok (.getfield 189, 3) := by decide +kernel
theorem dX11_call_103 : decode cX11_call 103 = .ok (.iload_n 1, 1) := by decide +kernel
theorem dX11_call_104 : decode cX11_call 104 = .ok (.iload_n 2, 1) := by decide +kernel
theorem dX11_call_105 : decode cX11_call 105 = .ok (.iload_n 3, 1) := by decide +kernel
theorem dX11_call_106 : decode cX11_call 106 = .ok (.iload 4, 2) := by decide +kernel
theorem dX11_call_108 : decode cX11_call 108 = .ok (.iload 5, 2) := by decide +kernel
theorem dX11_call_110 : decode cX11_call 110 = .ok (.aload 6, 2) := by decide +kernel
theorem dX11_call_112 : decode cX11_call 112 = .ok (.getfield 193, 3) := by decide +kernel
theorem dX11_call_115 : decode cX11_call 115 = .ok (.iload_n 2, 1) := by decide +kernel
theorem dX11_call_116 : decode cX11_call 116 = .ok (.iaload, 1) := by decide +kernel
theorem dX11_call_117 : decode cX11_call 117 = .ok (.invokevirtual 196, 3) := by decide +kernel
theorem dX11_call_120 : decode cX11_call 120 = .ok (.ireturn, 1) := by decide +kernel
theorem dX11_told_0 : decode cX11_told 0 = .ok (.aload_n 0, 1) := by decide +kernel
theorem dX11_told_1 : decode cX11_told 1 = .ok (.getfield 12, 3) := by decide +kernel
theorem dX11_told_4 : decode cX11_told 4 = .ok (.getfield 189, 3) := by decide +kernel
theorem dX11_told_7 : decode cX11_told 7 = .ok (.iload_n 1, 1) := by decide +kernel
theorem dX11_told_8 : decode cX11_told 8 = .ok (.invokevirtual 201, 3) := by decide +kernel
theorem dX11_told_11 : decode cX11_told 11 = .ok (.ifCond .ne 7, 3) := by decide +kernel
theorem dX11_told_14 : decode cX11_told 14 = .ok (.ldc2_w 127, 3) := by decide +kernel
theorem dX11_told_17 : decode cX11_told 17 = .ok (.lreturn, 1) := by decide +kernel
theorem dX11_told_18 : decode cX11_told 18 = .ok (.aload_n 0, 1) := by decide +kernel
theorem dX11_told_19 : decode cX11_told 19 = .ok (.getfield 12, 3) := by decide +kernel
theorem dX11_told_22 : decode cX11_told 22 = .ok (.aload_n 0, 1) := by decide +kernel
theorem dX11_told_23 : decode cX11_told 23 = .ok (.getfield 129, 3) := by decide +kernel
theorem dX11_told_26 : decode cX11_told 26 = .ok (.invokevirtual 133, 3) := by decide +kernel
theorem dX11_told_29 : decode cX11_told 29 = .ok (.aload_n 0, 1) := by decide +kernel
theorem dX11_told_30 : decode cX11_told 30 = .ok (.getfield 12, 3) := by decide +kernel
theorem dX11_told_33 : decode cX11_told 33 = .ok (.getfield 189, 3) := by decide +kernel
theorem dX11_told_36 : decode cX11_told 36 = .ok (.getfield 202, 3) := by decide +kernel
theorem dX11_told_39 : decode cX11_told 39 = .ok (.iload_n 1, 1) := by decide +kernel
theorem dX11_told_40 : decode cX11_told 40 = .ok (.iaload, 1) := by decide +kernel
theorem dX11_told_41 : decode cX11_told 41 = .ok (.istore_n 3, 1) := by decide +kernel
theorem dX11_told_42 : decode cX11_told 42 = .ok (.iload_n 2, 1) := by decide +kernel
theorem dX11_told_43 : decode cX11_told 43 = .ok (.tableswitch 190 0 9 #[53, 56, 67, 78, 105, 123, 150, 160, 170, 180], 53) := by decide +kernel
theorem dX11_told_96 : decode cX11_told 96 = .ok (.iload_n 3, 1) := by decide +kernel
theorem dX11_told_97 : decode cX11_told 97 = .ok (.i2l, 1) := by decide +kernel
theorem dX11_told_98 : decode cX11_told 98 = .ok (.lreturn, 1) := by decide +kernel
theorem dX11_told_99 : decode cX11_told 99 = .ok (.aload_n 0, 1) := by decide +kernel
theorem dX11_told_100 : decode cX11_told 100 = .ok (.getfield 12, 3) := by decide +kernel
theorem dX11_told_103 : decode cX11_told 103 = .ok (.iload_n 3, 1) := by decide +kernel
theorem dX11_told_104 : decode cX11_told 104 = .ok (.iload_n 1, 1) := by decide +kernel
theorem dX11_told_105 : decode cX11_told 105 = .ok (.invokevirtual 205, 3) := by decide +kernel
theorem dX11_told_108 : decode cX11_told 108 = .ok (.i2l, 1) := by decide +kernel
theorem dX11_told_109 : decode cX11_told 109 = .ok (.lreturn, 1) := by decide +kernel
theorem dX11_told_110 : decode cX11_told 110 = .ok (.aload_n 0, 1) := by decide +kernel
theorem dX11_told_111 : decode cX11_told 111 = .ok (.getfield 12, 3) := by decide +kernel
theorem dX11_told_114 : decode cX11_told 114 = .ok (.iload_n 3, 1) := by decide +kernel
theorem dX11_told_115 : decode cX11_told 115 = .ok (.iload_n 1, 1) := by decide +kernel
theorem dX11_told_116 : decode cX11_told 116 = .ok (.invokevirtual 208, 3) := by decide +kernel
theorem dX11_told_119 : decode cX11_told 119 = .ok (.i2l, 1) := by decide +kernel
theorem dX11_told_120 : decode cX11_told 120 = .ok (.lreturn, 1) := by decide +kernel
theorem dX11_told_121 : decode cX11_told 121 = .ok (.aload_n 0, 1) := by decide +kernel
theorem dX11_told_122 : decode cX11_told 122 = .ok (.getfield 12, 3) := by decide +kernel
theorem dX11_told_125 : decode cX11_told 125 = .ok (.iload_n 3, 1) := by decide +kernel
theorem dX11_told_126 : decode cX11_told 126 = .ok (.iload_n 1, 1) := by decide +kernel
theorem dX11_told_127 : decode cX11_told 127 = .ok (.invokevirtual 205, 3) := by decide +kernel
theorem dX11_told_130 : decode cX11_told 130 = .ok (.aload_n 0, 1) := by decide +kernel
theorem dX11_told_131 : decode cX11_told 131 = .ok (.getfield 12, 3) := by decide +kernel
theorem dX11_told_134 : decode cX11_told 134 = .ok (.iload_n 3, 1) := by decide +kernel
theorem dX11_told_135 : decode cX11_told 135 = .ok (.iload_n 1, 1) := by decide +kernel
theorem dX11_told_136 : decode cX11_told 136 = .ok (.invokevirtual 208, 3) := by decide +kernel
theorem dX11_told_139 : decode cX11_told 139 = .ok (.if_icmp .le 7, 3) := by decide +kernel
theorem dX11_told_142 : decode cX11_told 142 = .ok (.lconst 1, 1) := by decide +kernel
theorem dX11_told_143 : decode cX11_told 143 = .ok (.goto 4, 3) := by decide +kernel
theorem dX11_told_146 : decode cX11_told 146 = .ok (.lconst 0, 1) := by decide +kernel
theorem dX11_told_147 : decode cX11_told 147 = .ok (.lreturn, 1) := by decide +kernel
theorem dX11_told_148 : decode cX11_told 148 = .ok (.aload_n 0, 1) := by decide +kernel
theorem dX11_told_149 : decode cX11_told 149 = .ok (.getfield 12, 3) := by decide +kernel
theorem dX11_told_152 : decode cX11_told 152 = .ok (.iload_n 3, 1) := by decide +kernel
theorem dX11_told_153 : decode cX11_told 153 = .ok (.iload_n 1, 1) := by decide +kernel
theorem dX11_told_154 : decode cX11_told 154 = .ok (.invokevirtual 211, 3) := by decide +kernel
theorem dX11_told_157 : decode cX11_told 157 = .ok (.ifCond .eq 7, 3) := by decide +kernel
theorem dX11_told_160 : decode cX11_told 160 = .ok (.lconst 1, 1) := by decide +kernel
theorem dX11_told_161 : decode cX11_told 161 = .ok (.goto 4, 3) := by decide +kernel
theorem dX11_told_164 : decode cX11_told 164 = .ok (.lconst 0, 1) := by decide +kernel
theorem dX11_told_165 : decode cX11_told 165 = .ok (.lreturn, 1) := by decide +kernel
theorem dX11_told_166 : decode cX11_told 166 = .ok (.aload_n 0, 1) := by decide +kernel
theorem dX11_told_167 : decode cX11_told 167 = .ok (.getfield 12, 3) := by decide +kernel
theorem dX11_told_170 : decode cX11_told 170 = .ok (.iload_n 3, 1) := by decide +kernel
theorem dX11_told_171 : decode cX11_told 171 = .ok (.iload_n 1, 1) := by decide +kernel
theorem dX11_told_172 : decode cX11_told 172 = .ok (.invokevirtual 211, 3) := by decide +kernel
theorem dX11_told_175 : decode cX11_told 175 = .ok (.aload_n 0, 1) := by decide +kernel
theorem dX11_told_176 : decode cX11_told 176 = .ok (.getfield 12, 3) := by decide +kernel
theorem dX11_told_179 : decode cX11_told 179 = .ok (.iconst 0, 1) := by decide +kernel
theorem dX11_told_180 : decode cX11_told 180 = .ok (.iload_n 1, 1) := by decide +kernel
theorem dX11_told_181 : decode cX11_told 181 = .ok (.invokevirtual 211, 3) := by decide +kernel
theorem dX11_told_184 : decode cX11_told 184 = .ok (.if_icmp .eq 7, 3) := by decide +kernel
theorem dX11_told_187 : decode cX11_told 187 = .ok (.lconst 1, 1) := by decide +kernel
theorem dX11_told_188 : decode cX11_told 188 = .ok (.goto 4, 3) := by decide +kernel
theorem dX11_told_191 : decode cX11_told 191 = .ok (.lconst 0, 1) := by decide +kernel
theorem dX11_told_192 : decode cX11_told 192 = .ok (.lreturn, 1) := by decide +kernel
theorem dX11_told_193 : decode cX11_told 193 = .ok (.aload_n 0, 1) := by decide +kernel
theorem dX11_told_194 : decode cX11_told 194 = .ok (.getfield 12, 3) := by decide +kernel
theorem dX11_told_197 : decode cX11_told 197 = .ok (.iload_n 1, 1) := by decide +kernel
theorem dX11_told_198 : decode cX11_told 198 = .ok (.invokevirtual 215, 3) := by decide +kernel
theorem dX11_told_201 : decode cX11_told 201 = .ok (.i2l, 1) := by decide +kernel
theorem dX11_told_202 : decode cX11_told 202 = .ok (.lreturn, 1) := by decide +kernel
theorem dX11_told_203 : decode cX11_told 203 = .ok (.aload_n 0, 1) := by decide +kernel
theorem dX11_told_204 : decode cX11_told 204 = .ok (.getfield 12, 3) := by decide +kernel
theorem dX11_told_207 : decode cX11_told 207 = .ok (.iload_n 1, 1) := by decide +kernel
theorem dX11_told_208 : decode cX11_told 208 = .ok (.invokevirtual 218, 3) := by decide +kernel
theorem dX11_told_211 : decode cX11_told 211 = .ok (.i2l, 1) := by decide +kernel
theorem dX11_told_212 : decode cX11_told 212 = .ok (.lreturn, 1) := by decide +kernel
theorem dX11_told_213 : decode cX11_told 213 = .ok (.aload_n 0, 1) := by decide +kernel
theorem dX11_told_214 : decode cX11_told 214 = .ok (.getfield 12, 3) := by decide +kernel
theorem dX11_told_217 : decode cX11_told 217 = .ok (.iload_n 1, 1) := by decide +kernel
theorem dX11_told_218 : decode cX11_told 218 = .ok (.invokevirtual 221, 3) := by decide +kernel
theorem dX11_told_221 : decode cX11_told 221 = .ok (.i2l, 1) := by decide +kernel
theorem dX11_told_222 : decode cX11_told 222 = .ok (.lreturn, 1) := by decide +kernel
theorem dX11_told_223 : decode cX11_told 223 = .ok (.aload_n 0, 1) := by decide +kernel
theorem dX11_told_224 : decode cX11_told 224 = .ok (.getfield 12, 3) := by decide +kernel
theorem dX11_told_227 : decode cX11_told 227 = .ok (.iload_n 1, 1) := by decide +kernel
theorem dX11_told_228 : decode cX11_told 228 = .ok (.invokevirtual 224, 3) := by decide +kernel
theorem dX11_told_231 : decode cX11_told 231 = .ok (.i2l, 1) := by decide +kernel
theorem dX11_told_232 : decode cX11_told 232 = .ok (.lreturn, 1) := by decide +kernel
theorem dX11_told_233 : decode cX11_told 233 = .ok (.ldc2_w 127, 3) := by decide +kernel
theorem dX11_told_236 : decode cX11_told 236 = .ok (.lreturn, 1) := by decide +kernel
theorem dX11_offside_0 : decode cX11_offside 0 = .ok (.aload_n 0, 1) := by decide +kernel
theorem dX11_offside_1 : decode cX11_offside 1 = .ok (.getfield 12, 3) := by decide +kernel
theorem dX11_offside_4 : decode cX11_offside 4 = .ok (.aload_n 0, 1) := by decide +kernel
theorem dX11_offside_5 : decode cX11_offside 5 = .ok (.getfield 129, 3) := by decide +kernel
theorem dX11_offside_8 : decode cX11_offside 8 = .ok (.invokevirtual 133, 3) := by decide +kernel
theorem dX11_offside_11 : decode cX11_offside 11 = .ok (.aload_n 0, 1) := by decide +kernel
theorem dX11_offside_12 : decode cX11_offside 12 = .ok (.getfield 12, 3) := by decide +kernel
theorem dX11_offside_15 : decode cX11_offside 15 = .ok (.aload_n 0, 1) := by decide +kernel
theorem dX11_offside_16 : decode cX11_offside 16 = .ok (.getfield 12, 3) := by decide +kernel
theorem dX11_offside_19 : decode cX11_offside 19 = .ok (.getfield 189, 3) := by decide +kernel
theorem dX11_offside_22 : decode cX11_offside 22 = .ok (.invokevirtual 227, 3) := by decide +kernel
theorem dX11_offside_25 : decode cX11_offside 25 = .ok (.invokevirtual 230, 3) := by decide +kernel
theorem dX11_offside_28 : decode cX11_offside 28 = .ok (.ireturn, 1) := by decide +kernel
theorem dX11_wrong_0 : decode cX11_wrong 0 = .ok (.iload_n 1, 1) := by decide +kernel
theorem dX11_wrong_1 : decode cX11_wrong 1 = .ok (.invokestatic 233, 3) := by decide +kernel
theorem dX11_wrong_4 : decode cX11_wrong 4 = .ok (.ifCond .eq 27, 3) := by decide +kernel
theorem dX11_wrong_7 : decode cX11_wrong 7 = .ok (.aload_n 0, 1) := by decide +kernel
theorem dX11_wrong_8 : decode cX11_wrong 8 = .ok (.getfield 12, 3) := by decide +kernel
theorem dX11_wrong_11 : decode cX11_wrong 11 = .ok (.getfield 189, 3) := by decide +kernel
theorem dX11_wrong_14 : decode cX11_wrong 14 = .ok (.iload_n 2, 1) := by decide +kernel
theorem dX11_wrong_15 : decode cX11_wrong 15 = .ok (.invokevirtual 236, 3) := by decide +kernel
theorem dX11_wrong_18 : decode cX11_wrong 18 = .ok (.ifCond .eq 13, 3) := by decide +kernel
theorem dX11_wrong_21 : decode cX11_wrong 21 = .ok (.iload 4, 2) := by decide +kernel
theorem dX11_wrong_23 : decode cX11_wrong 23 = .ok (.iconst 0, 1) := by decide +kernel
theorem dX11_wrong_24 : decode cX11_wrong 24 = .ok (.iconst 1, 1) := by decide +kernel
theorem dX11_wrong_25 : decode cX11_wrong 25 = .ok (.invokestatic 100, 3) := by decide +kernel
theorem dX11_wrong_28 : decode cX11_wrong 28 = .ok (.ifCond .ne 6, 3) := by decide +kernel
theorem dX11_wrong_31 : decode cX11_wrong 31 = .ok (.bipush (-2), 2) := by decide +kernel
theorem dX11_wrong_33 : decode cX11_wrong 33 = .ok (.ireturn, 1) := by decide +kernel
theorem dX11_wrong_34 : decode cX11_wrong 34 = .ok (.aload_n 0, 1) := by decide +kernel
theorem dX11_wrong_35 : decode cX11_wrong 35 = .ok (.getfield 40, 3) := by decide +kernel
theorem dX11_wrong_38 : decode cX11_wrong 38 = .ok (.iload_n 1, 1) := by decide +kernel
theorem dX11_wrong_39 : decode cX11_wrong 39 = .ok (.invokevirtual 239, 3) := by decide +kernel
theorem dX11_wrong_42 : decode cX11_wrong 42 = .ok (.istore 5, 2) := by decide +kernel
theorem dX11_wrong_44 : decode cX11_wrong 44 = .ok (.iload 5, 2) := by decide +kernel
theorem dX11_wrong_46 : decode cX11_wrong 46 = .ok (.ifCond .eq 6, 3) := by decide +kernel
theorem dX11_wrong_49 : decode cX11_wrong 49 = .ok (.iload 5, 2) := by decide +kernel
theorem dX11_wrong_51 : decode cX11_wrong 51 = .ok (.ireturn, 1) := by decide +kernel
theorem dX11_wrong_52 : decode cX11_wrong 52 = .ok (.aload_n 0, 1) := by decide +kernel
theorem dX11_wrong_53 : decode cX11_wrong 53 = .ok (.getfield 40, 3) := by decide +kernel
theorem dX11_wrong_56 : decode cX11_wrong 56 = .ok (.iload_n 1, 1) := by decide +kernel
theorem dX11_wrong_57 : decode cX11_wrong 57 = .ok (.iload_n 3, 1) := by decide +kernel
theorem dX11_wrong_58 : decode cX11_wrong 58 = .ok (.invokevirtual 242, 3) := by decide +kernel
theorem dX11_wrong_61 : decode cX11_wrong 61 = .ok (.ifCond .ne 5, 3) := by decide +kernel
theorem dX11_wrong_64 : decode cX11_wrong 64 = .ok (.iconst (-1), 1) := by decide +kernel
theorem dX11_wrong_65 : decode cX11_wrong 65 = .ok (.ireturn, 1) := by decide +kernel
theorem dX11_wrong_66 : decode cX11_wrong 66 = .ok (.aload_n 0, 1) := by decide +kernel
theorem dX11_wrong_67 : decode cX11_wrong 67 = .ok (.getfield 12, 3) := by decide +kernel
theorem dX11_wrong_70 : decode cX11_wrong 70 = .ok (.aload_n 0, 1) := by decide +kernel
theorem dX11_wrong_71 : decode cX11_wrong 71 = .ok (.getfield 40, 3) := by decide +kernel
theorem dX11_wrong_74 : decode cX11_wrong 74 = .ok (.iload_n 1, 1) := by decide +kernel
theorem dX11_wrong_75 : decode cX11_wrong 75 = .ok (.iload_n 3, 1) := by decide +kernel
theorem dX11_wrong_76 : decode cX11_wrong 76 = .ok (.invokevirtual 244, 3) := by decide +kernel
theorem dX11_wrong_79 : decode cX11_wrong 79 = .ok (.invokevirtual 133, 3) := by decide +kernel
theorem dX11_wrong_82 : decode cX11_wrong 82 = .ok (.aload_n 0, 1) := by decide +kernel
theorem dX11_wrong_83 : decode cX11_wrong 83 = .ok (.getfield 12, 3) := by decide +kernel
theorem dX11_wrong_86 : decode cX11_wrong 86 = .ok (.iload_n 2, 1) := by decide +kernel
theorem dX11_wrong_87 : decode cX11_wrong 87 = .ok (.invokevirtual 247, 3) := by decide +kernel
theorem dX11_wrong_90 : decode cX11_wrong 90 = .ok (.iload 4, 2) := by decide +kernel
theorem dX11_wrong_92 : decode cX11_wrong 92 = .ok (.ifCond .ne 13, 3) := by decide +kernel
theorem dX11_wrong_95 : decode cX11_wrong 95 = .ok (.aload_n 0, 1) := by decide +kernel
theorem dX11_wrong_96 : decode cX11_wrong 96 = .ok (.getfield 12, 3) := by decide +kernel
theorem dX11_wrong_99 : decode cX11_wrong 99 = .ok (.getfield 250, 3) := by decide +kernel
theorem dX11_wrong_102 : decode cX11_wrong 102 = .ok (.goto 10, 3) := by decide +kernel
theorem dX11_wrong_105 : decode cX11_wrong 105 = .ok (.aload_n 0, 1) := by decide +kernel
theorem dX11_wrong_106 : decode cX11_wrong 106 = .ok (.getfield 12, 3) := by decide +kernel
theorem dX11_wrong_109 : decode cX11_wrong 109 = .ok (.getfield 253, 3) := by decide +kernel
theorem dX11_wrong_112 : decode cX11_wrong 112 = .ok (.ireturn, 1) := by decide +kernel
theorem dX11_best_0 : decode cX11_best 0 = .ok (.iload_n 1, 1) := by decide +kernel
theorem dX11_best_1 : decode cX11_best 1 = .ok (.invokestatic 233, 3) := by decide +kernel
theorem dX11_best_4 : decode cX11_best 4 = .ok (.ifCond .eq 28, 3) := by decide +kernel
theorem dX11_best_7 : decode cX11_best 7 = .ok (.aload_n 0, 1) := by decide +kernel
theorem dX11_best_8 : decode cX11_best 8 = .ok (.getfield 12, 3) := by decide +kernel
theorem dX11_best_11 : decode cX11_best 11 = .ok (.getfield 189, 3) := by decide +kernel
theorem dX11_best_14 : decode cX11_best 14 = .ok (.iload_n 2, 1) := by decide +kernel
theorem dX11_best_15 : decode cX11_best 15 = .ok (.invokevirtual 236, 3) := by decide +kernel
theorem dX11_best_18 : decode cX11_best 18 = .ok (.ifCond .eq 14, 3) := by decide +kernel
theorem dX11_best_21 : decode cX11_best 21 = .ok (.iload_n 3, 1) := by decide +kernel
theorem dX11_best_22 : decode cX11_best 22 = .ok (.iconst 0, 1) := by decide +kernel
theorem dX11_best_23 : decode cX11_best 23 = .ok (.sipush 9999, 3) := by decide +kernel
theorem dX11_best_26 : decode cX11_best 26 = .ok (.invokestatic 100, 3) := by decide +kernel
theorem dX11_best_29 : decode cX11_best 29 = .ok (.ifCond .ne 6, 3) := by decide +kernel
theorem dX11_best_32 : decode cX11_best 32 = .ok (.bipush (-2), 2) := by decide +kernel
theorem dX11_best_34 : decode cX11_best 34 = .ok (.ireturn, 1) := by decide +kernel
theorem dX11_best_35 : decode cX11_best 35 = .ok (.aload_n 0, 1) := by decide +kernel
theorem dX11_best_36 : decode cX11_best 36 = .ok (.getfield 40, 3) := by decide +kernel
theorem dX11_best_39 : decode cX11_best 39 = .ok (.iload_n 1, 1) := by decide +kernel
theorem dX11_best_40 : decode cX11_best 40 = .ok (.invokevirtual 239, 3) := by decide +kernel
theorem dX11_best_43 : decode cX11_best 43 = .ok (.istore 4, 2) := by decide +kernel
theorem dX11_best_45 : decode cX11_best 45 = .ok (.iload 4, 2) := by decide +kernel
theorem dX11_best_47 : decode cX11_best 47 = .ok (.ifCond .eq 6, 3) := by decide +kernel
theorem dX11_best_50 : decode cX11_best 50 = .ok (.iload 4, 2) := by decide +kernel
theorem dX11_best_52 : decode cX11_best 52 = .ok (.ireturn, 1) := by decide +kernel
theorem dX11_best_53 : decode cX11_best 53 = .ok (.aload_n 0, 1) := by decide +kernel
theorem dX11_best_54 : decode cX11_best 54 = .ok (.getfield 40, 3) := by decide +kernel
theorem dX11_best_57 : decode cX11_best 57 = .ok (.iload_n 1, 1) := by decide +kernel
theorem dX11_best_58 : decode cX11_best 58 = .ok (.iconst 0, 1) := by decide +kernel
theorem dX11_best_59 : decode cX11_best 59 = .ok (.invokevirtual 244, 3) := by decide +kernel
theorem dX11_best_62 : decode cX11_best 62 = .ok (.istore 5, 2) := by decide +kernel
theorem dX11_best_64 : decode cX11_best 64 = .ok (.iconst 0, 1) := by decide +kernel
theorem dX11_best_65 : decode cX11_best 65 = .ok (.istore 6, 2) := by decide +kernel
theorem dX11_best_67 : decode cX11_best 67 = .ok (.iconst 0, 1) := by decide +kernel
theorem dX11_best_68 : decode cX11_best 68 = .ok (.istore 7, 2) := by decide +kernel
theorem dX11_best_70 : decode cX11_best 70 = .ok (.iload 7, 2) := by decide +kernel
theorem dX11_best_72 : decode cX11_best 72 = .ok (.aload_n 0, 1) := by decide +kernel
theorem dX11_best_73 : decode cX11_best 73 = .ok (.getfield 40, 3) := by decide +kernel
theorem dX11_best_76 : decode cX11_best 76 = .ok (.getfield 256, 3) := by decide +kernel
theorem dX11_best_79 : decode cX11_best 79 = .ok (.iload_n 1, 1) := by decide +kernel
theorem dX11_best_80 : decode cX11_best 80 = .ok (.iaload, 1) := by decide +kernel
theorem dX11_best_81 : decode cX11_best 81 = .ok (.if_icmp .ge 85, 3) := by decide +kernel
theorem dX11_best_84 : decode cX11_best 84 = .ok (.aload_n 0, 1) := by decide +kernel
theorem dX11_best_85 : decode cX11_best 85 = .ok (.getfield 40, 3) := by decide +kernel
theorem dX11_best_88 : decode cX11_best 88 = .ok (.iload_n 1, 1) := by decide +kernel
theorem dX11_best_89 : decode cX11_best 89 = .ok (.iload 7, 2) := by decide +kernel
theorem dX11_best_91 : decode cX11_best 91 = .ok (.invokevirtual 244, 3) := by decide +kernel
theorem dX11_best_94 : decode cX11_best 94 = .ok (.istore 8, 2) := by decide +kernel
theorem dX11_best_96 : decode cX11_best 96 = .ok (.aload_n 0, 1) := by decide +kernel
theorem dX11_best_97 : decode cX11_best 97 = .ok (.getfield 12, 3) := by decide +kernel
theorem dX11_best_100 : decode cX11_best 100 = .ok (.iload 8, 2) := by decide +kernel
theorem dX11_best_102 : decode cX11_best 102 = .ok (.invokevirtual 133, 3) := by decide +kernel
theorem dX11_best_105 : decode cX11_best 105 = .ok (.aload_n 0, 1) := by decide +kernel
theorem dX11_best_106 : decode cX11_best 106 = .ok (.getfield 12, 3) := by decide +kernel
theorem dX11_best_109 : decode cX11_best 109 = .ok (.iload_n 2, 1) := by decide +kernel
theorem dX11_best_110 : decode cX11_best 110 = .ok (.invokevirtual 247, 3) := by decide +kernel
theorem dX11_best_113 : decode cX11_best 113 = .ok (.iload_n 3, 1) := by decide +kernel
theorem dX11_best_114 : decode cX11_best 114 = .ok (.bipush 100, 2) := by decide +kernel
theorem dX11_best_116 : decode cX11_best 116 = .ok (.idiv, 1) := by decide +kernel
theorem dX11_best_117 : decode cX11_best 117 = .ok (.aload_n 0, 1) := by decide +kernel
theorem dX11_best_118 : decode cX11_best 118 = .ok (.getfield 12, 3) := by decide +kernel
theorem dX11_best_121 : decode cX11_best 121 = .ok (.getfield 250, 3) := by decide +kernel
theorem dX11_best_124 : decode cX11_best 124 = .ok (.imul, 1) := by decide +kernel
theorem dX11_best_125 : decode cX11_best 125 = .ok (.iload_n 3, 1) := by decide +kernel
theorem dX11_best_126 : decode cX11_best 126 = .ok (.bipush 100, 2) := by decide +kernel
theorem dX11_best_128 : decode cX11_best 128 = .ok (.irem, 1) := by decide +kernel
theorem dX11_best_129 : decode cX11_best 129 = .ok (.aload_n 0, 1) := by decide +kernel
theorem dX11_best_130 : decode cX11_best 130 = .ok (.getfield 12, 3) := by decide +kernel
theorem dX11_best_133 : decode cX11_best 133 = .ok (.getfield 253, 3) := by decide +kernel
theorem dX11_best_136 : decode cX11_best 136 = .ok (.imul, 1) := by decide +kernel
theorem dX11_best_137 : decode cX11_best 137 = .ok (.iadd, 1) := by decide +kernel
theorem dX11_best_138 : decode cX11_best 138 = .ok (.istore 9, 2) := by decide +kernel
theorem dX11_best_140 : decode cX11_best 140 = .ok (.iload 7, 2) := by decide +kernel
theorem dX11_best_142 : decode cX11_best 142 = .ok (.ifCond .eq 10, 3) := by decide +kernel
theorem dX11_best_145 : decode cX11_best 145 = .ok (.iload 9, 2) := by decide +kernel
theorem dX11_best_147 : decode cX11_best 147 = .ok (.iload 6, 2) := by decide +kernel
theorem dX11_best_149 : decode cX11_best 149 = .ok (.if_icmp .ge 11, 3) := by decide +kernel
theorem dX11_best_152 : decode cX11_best 152 = .ok (.iload 9, 2) := by decide +kernel
theorem dX11_best_154 : decode cX11_best 154 = .ok (.istore 6, 2) := by decide +kernel
theorem dX11_best_156 : decode cX11_best 156 = .ok (.iload 8, 2) := by decide +kernel
theorem dX11_best_158 : decode cX11_best 158 = .ok (.istore 5, 2) := by decide +kernel
theorem dX11_best_160 : decode cX11_best 160 = .ok (.iinc 7 1, 3) := by decide +kernel
theorem dX11_best_163 : decode cX11_best 163 = .ok (.goto (-93), 3) := by decide +kernel
theorem dX11_best_166 : decode cX11_best 166 = .ok (.iload 5, 2) := by decide +kernel
theorem dX11_best_168 : decode cX11_best 168 = .ok (.ireturn, 1) := by decide +kernel
theorem dX11_match_0 : decode cX11_match 0 = .ok (.iload_n 1, 1) := by decide +kernel
theorem dX11_match_1 : decode cX11_match 1 = .ok (.ifCond .lt 34, 3) := by decide +kernel
theorem dX11_match_4 : decode cX11_match 4 = .ok (.iload_n 1, 1) := by decide +kernel
theorem dX11_match_5 : decode cX11_match 5 = .ok (.bipush 10, 2) := by decide +kernel
theorem dX11_match_7 : decode cX11_match 7 = .ok (.idiv, 1) := by decide +kernel
theorem dX11_match_8 : decode cX11_match 8 = .ok (.invokestatic 258, 3) := by decide +kernel
theorem dX11_match_11 : decode cX11_match 11 = .ok (.ifCond .eq 24, 3) := by decide +kernel
theorem dX11_match_14 : decode cX11_match 14 = .ok (.iload_n 1, 1) := by decide +kernel
theorem dX11_match_15 : decode cX11_match 15 = .ok (.bipush 10, 2) := by decide +kernel
theorem dX11_match_17 : decode cX11_match 17 = .ok (.irem, 1) := by decide +kernel
theorem dX11_match_18 : decode cX11_match 18 = .ok (.invokestatic 258, 3) := by decide +kernel
theorem dX11_match_21 : decode cX11_match 21 = .ok (.ifCond .eq 14, 3) := by decide +kernel
theorem dX11_match_24 : decode cX11_match 24 = .ok (.iload_n 1, 1) := by decide +kernel
theorem dX11_match_25 : decode cX11_match 25 = .ok (.bipush 10, 2) := by decide +kernel
theorem dX11_match_27 : decode cX11_match 27 = .ok (.idiv, 1) := by decide +kernel
theorem dX11_match_28 : decode cX11_match 28 = .ok (.iload_n 1, 1) := by decide +kernel
theorem dX11_match_29 : decode cX11_match 29 = .ok (.bipush 10, 2) := by decide +kernel
theorem dX11_match_31 : decode cX11_match 31 = .ok (.irem, 1) := by decide +kernel
theorem dX11_match_32 : decode cX11_match 32 = .ok (.if_icmp .ne 6, 3) := by decide +kernel
theorem dX11_match_35 : decode cX11_match 35 = .ok (.bipush (-2), 2) := by decide +kernel
theorem dX11_match_37 : decode cX11_match 37 = .ok (.ireturn, 1) := by decide +kernel
theorem dX11_match_38 : decode cX11_match 38 = .ok (.iload_n 2, 1) := by decide +kernel
theorem dX11_match_39 : decode cX11_match 39 = .ok (.iconst 0, 1) := by decide +kernel
theorem dX11_match_40 : decode cX11_match 40 = .ok (.bipush 99, 2) := by decide +kernel
theorem dX11_match_42 : decode cX11_match 42 = .ok (.invokestatic 100, 3) := by decide +kernel
theorem dX11_match_45 : decode cX11_match 45 = .ok (.ifCond .eq 17, 3) := by decide +kernel
theorem dX11_match_48 : decode cX11_match 48 = .ok (.aload_n 0, 1) := by decide +kernel
theorem dX11_match_49 : decode cX11_match 49 = .ok (.getfield 12, 3) := by decide +kernel
theorem dX11_match_52 : decode cX11_match 52 = .ok (.getfield 189, 3) := by decide +kernel
theorem dX11_match_55 : decode cX11_match 55 = .ok (.iload_n 3, 1) := by decide +kernel
theorem dX11_match_56 : decode cX11_match 56 = .ok (.invokevirtual 236, 3) := by decide +kernel
theorem dX11_match_59 : decode cX11_match 59 = .ok (.ifCond .ne 6, 3) := by decide +kernel
theorem dX11_match_62 : decode cX11_match 62 = .ok (.bipush (-2), 2) := by decide +kernel
theorem dX11_match_64 : decode cX11_match 64 = .ok (.ireturn, 1) := by decide +kernel
theorem dX11_match_65 : decode cX11_match 65 = .ok (.aload_n 0, 1) := by decide +kernel
theorem dX11_match_66 : decode cX11_match 66 = .ok (.getfield 26, 3) := by decide +kernel
theorem dX11_match_69 : decode cX11_match 69 = .ok (.iload_n 1, 1) := by decide +kernel
theorem dX11_match_70 : decode cX11_match 70 = .ok (.iload_n 2, 1) := by decide +kernel
theorem dX11_match_71 : decode cX11_match 71 = .ok (.iload_n 3, 1) := by decide +kernel
theorem dX11_match_72 : decode cX11_match 72 = .ok (.invokevirtual 261, 3) := by decide +kernel
theorem dX11_match_75 : decode cX11_match 75 = .ok (.ireturn, 1) := by decide +kernel
theorem dX11_table_0 : decode cX11_table 0 = .ok (.iload_n 1, 1) := by decide +kernel
theorem dX11_table_1 : decode cX11_table 1 = .ok (.invokestatic 185, 3) := by decide +kernel
theorem dX11_table_4 : decode cX11_table 4 = .ok (.ifCond .eq 19, 3) := by decide +kernel
theorem dX11_table_7 : decode cX11_table 7 = .ok (.iload_n 2, 1) := by decide +kernel
theorem dX11_table_8 : decode cX11_table 8 = .ok (.invokestatic 258, 3) := by decide +kernel
theorem dX11_table_11 : decode cX11_table 11 = .ok (.ifCond .eq 12, 3) := by decide +kernel
theorem dX11_table_14 : decode cX11_table 14 = .ok (.iload_n 3, 1) := by decide +kernel
theorem dX11_table_15 : decode cX11_table 15 = .ok (.iconst 0, 1) := by decide +kernel
theorem dX11_table_16 : decode cX11_table 16 = .ok (.iconst 3, 1) := by decide +kernel
theorem dX11_table_17 : decode cX11_table 17 = .ok (.invokestatic 100, 3) := by decide +kernel
theorem dX11_table_20 : decode cX11_table 20 = .ok (.ifCond .ne 6, 3) := by decide +kernel
theorem dX11_table_23 : decode cX11_table 23 = .ok (.bipush (-2), 2) := by decide +kernel
theorem dX11_table_25 : decode cX11_table 25 = .ok (.ireturn, 1) := by decide +kernel
theorem dX11_table_26 : decode cX11_table 26 = .ok (.aload_n 0, 1) := by decide +kernel
theorem dX11_table_27 : decode cX11_table 27 = .ok (.getfield 12, 3) := by decide +kernel
theorem dX11_table_30 : decode cX11_table 30 = .ok (.iload_n 1, 1) := by decide +kernel
theorem dX11_table_31 : decode cX11_table 31 = .ok (.invokevirtual 133, 3) := by decide +kernel
theorem dX11_table_34 : decode cX11_table 34 = .ok (.aload_n 0, 1) := by decide +kernel
theorem dX11_table_35 : decode cX11_table 35 = .ok (.getfield 26, 3) := by decide +kernel
theorem dX11_table_38 : decode cX11_table 38 = .ok (.aload_n 0, 1) := by decide +kernel
theorem dX11_table_39 : decode cX11_table 39 = .ok (.getfield 12, 3) := by decide +kernel
theorem dX11_table_42 : decode cX11_table 42 = .ok (.aload_n 0, 1) := by decide +kernel
theorem dX11_table_43 : decode cX11_table 43 = .ok (.getfield 12, 3) := by decide +kernel
theorem dX11_table_46 : decode cX11_table 46 = .ok (.getfield 189, 3) := by decide +kernel
theorem dX11_table_49 : decode cX11_table 49 = .ok (.invokevirtual 227, 3) := by decide +kernel
theorem dX11_table_52 : decode cX11_table 52 = .ok (.invokevirtual 230, 3) := by decide +kernel
theorem dX11_table_55 : decode cX11_table 55 = .ok (.aload_n 0, 1) := by decide +kernel
theorem dX11_table_56 : decode cX11_table 56 = .ok (.getfield 12, 3) := by decide +kernel
theorem dX11_table_59 : decode cX11_table 59 = .ok (.getfield 189, 3) := by decide +kernel
theorem dX11_table_62 : decode cX11_table 62 = .ok (.invokevirtual 262, 3) := by decide +kernel
theorem dX11_table_65 : decode cX11_table 65 = .ok (.iload_n 3, 1) := by decide +kernel
theorem dX11_table_66 : decode cX11_table 66 = .ok (.tableswitch 56 0 2 #[26, 36, 46], 26) := by decide +kernel
theorem dX11_table_92 : decode cX11_table 92 = .ok (.aload_n 0, 1) := by decide +kernel
theorem dX11_table_93 : decode cX11_table 93 = .ok (.getfield 26, 3) := by decide +kernel
theorem dX11_table_96 : decode cX11_table 96 = .ok (.getfield 266, 3) := by decide +kernel
theorem dX11_table_99 : decode cX11_table 99 = .ok (.iload_n 2, 1) := by decide +kernel
theorem dX11_table_100 : decode cX11_table 100 = .ok (.iaload, 1) := by decide +kernel
theorem dX11_table_101 : decode cX11_table 101 = .ok (.ireturn, 1) := by decide +kernel
theorem dX11_table_102 : decode cX11_table 102 = .ok (.aload_n 0, 1) := by decide +kernel
theorem dX11_table_103 : decode cX11_table 103 = .ok (.getfield 26, 3) := by decide +kernel
theorem dX11_table_106 : decode cX11_table 106 = .ok (.getfield 269, 3) := by decide +kernel
theorem dX11_table_109 : decode cX11_table 109 = .ok (.iload_n 2, 1) := by decide +kernel
theorem dX11_table_110 : decode cX11_table 110 = .ok (.iaload, 1) := by decide +kernel
theorem dX11_table_111 : decode cX11_table 111 = .ok (.ireturn, 1) := by decide +kernel
theorem dX11_table_112 : decode cX11_table 112 = .ok (.aload_n 0, 1) := by decide +kernel
theorem dX11_table_113 : decode cX11_table 113 = .ok (.getfield 26, 3) := by decide +kernel
theorem dX11_table_116 : decode cX11_table 116 = .ok (.getfield 272, 3) := by decide +kernel
theorem dX11_table_119 : decode cX11_table 119 = .ok (.iload_n 2, 1) := by decide +kernel
theorem dX11_table_120 : decode cX11_table 120 = .ok (.iaload, 1) := by decide +kernel
theorem dX11_table_121 : decode cX11_table 121 = .ok (.ireturn, 1) := by decide +kernel
theorem dX11_table_122 : decode cX11_table 122 = .ok (.aload_n 0, 1) := by decide +kernel
theorem dX11_table_123 : decode cX11_table 123 = .ok (.getfield 26, 3) := by decide +kernel
theorem dX11_table_126 : decode cX11_table 126 = .ok (.iload_n 2, 1) := by decide +kernel
theorem dX11_table_127 : decode cX11_table 127 = .ok (.invokevirtual 275, 3) := by decide +kernel
theorem dX11_table_130 : decode cX11_table 130 = .ok (.ireturn, 1) := by decide +kernel
theorem dX11_season_0 : decode cX11_season 0 = .ok (.iload_n 1, 1) := by decide +kernel
theorem dX11_season_1 : decode cX11_season 1 = .ok (.invokestatic 233, 3) := by decide +kernel
theorem dX11_season_4 : decode cX11_season 4 = .ok (.ifCond .ne 6, 3) := by decide +kernel
theorem dX11_season_7 : decode cX11_season 7 = .ok (.bipush (-2), 2) := by decide +kernel
theorem dX11_season_9 : decode cX11_season 9 = .ok (.ireturn, 1) := by decide +kernel
theorem dX11_season_10 : decode cX11_season 10 = .ok (.aload_n 0, 1) := by decide +kernel
theorem dX11_season_11 : decode cX11_season 11 = .ok (.getfield 40, 3) := by decide +kernel
theorem dX11_season_14 : decode cX11_season 14 = .ok (.iload_n 1, 1) := by decide +kernel
theorem dX11_season_15 : decode cX11_season 15 = .ok (.invokevirtual 239, 3) := by decide +kernel
theorem dX11_season_18 : decode cX11_season 18 = .ok (.istore_n 2, 1) := by decide +kernel
theorem dX11_season_19 : decode cX11_season 19 = .ok (.iload_n 2, 1) := by decide +kernel
theorem dX11_season_20 : decode cX11_season 20 = .ok (.ifCond .eq 5, 3) := by decide +kernel
theorem dX11_season_23 : decode cX11_season 23 = .ok (.iload_n 2, 1) := by decide +kernel
theorem dX11_season_24 : decode cX11_season 24 = .ok (.ireturn, 1) := by decide +kernel
theorem dX11_season_25 : decode cX11_season 25 = .ok (.iconst 0, 1) := by decide +kernel
theorem dX11_season_26 : decode cX11_season 26 = .ok (.istore_n 3, 1) := by decide +kernel
theorem dX11_season_27 : decode cX11_season 27 = .ok (.iconst 0, 1) := by decide +kernel
theorem dX11_season_28 : decode cX11_season 28 = .ok (.istore 4, 2) := by decide +kernel
theorem dX11_season_30 : decode cX11_season 30 = .ok (.iconst 0, 1) := by decide +kernel
theorem dX11_season_31 : decode cX11_season 31 = .ok (.istore 5, 2) := by decide +kernel
theorem dX11_season_33 : decode cX11_season 33 = .ok (.iload 5, 2) := by decide +kernel
theorem dX11_season_35 : decode cX11_season 35 = .ok (.aload_n 0, 1) := by decide +kernel
theorem dX11_season_36 : decode cX11_season 36 = .ok (.getfield 40, 3) := by decide +kernel
theorem dX11_season_39 : decode cX11_season 39 = .ok (.getfield 256, 3) := by decide +kernel
theorem dX11_season_42 : decode cX11_season 42 = .ok (.iload_n 1, 1) := by decide +kernel
theorem dX11_season_43 : decode cX11_season 43 = .ok (.iaload, 1) := by decide +kernel
theorem dX11_season_44 : decode cX11_season 44 = .ok (.if_icmp .ge 85, 3) := by decide +kernel
theorem dX11_season_47 : decode cX11_season 47 = .ok (.aload_n 0, 1) := by decide +kernel
theorem dX11_season_48 : decode cX11_season 48 = .ok (.getfield 12, 3) := by decide +kernel
theorem dX11_season_51 : decode cX11_season 51 = .ok (.aload_n 0, 1) := by decide +kernel
theorem dX11_season_52 : decode cX11_season 52 = .ok (.getfield 40, 3) := by decide +kernel
theorem dX11_season_55 : decode cX11_season 55 = .ok (.iload_n 1, 1) := by decide +kernel
theorem dX11_season_56 : decode cX11_season 56 = .ok (.iload 5, 2) := by decide +kernel
theorem dX11_season_58 : decode cX11_season 58 = .ok (.invokevirtual 244, 3) := by decide +kernel
theorem dX11_season_61 : decode cX11_season 61 = .ok (.invokevirtual 133, 3) := by decide +kernel
theorem dX11_season_64 : decode cX11_season 64 = .ok (.aload_n 0, 1) := by decide +kernel
theorem dX11_season_65 : decode cX11_season 65 = .ok (.getfield 26, 3) := by decide +kernel
theorem dX11_season_68 : decode cX11_season 68 = .ok (.aload_n 0, 1) := by decide +kernel
theorem dX11_season_69 : decode cX11_season 69 = .ok (.getfield 12, 3) := by decide +kernel
theorem dX11_season_72 : decode cX11_season 72 = .ok (.aload_n 0, 1) := by decide +kernel
theorem dX11_season_73 : decode cX11_season 73 = .ok (.getfield 12, 3) := by decide +kernel
theorem dX11_season_76 : decode cX11_season 76 = .ok (.getfield 189, 3) := by decide +kernel
theorem dX11_season_79 : decode cX11_season 79 = .ok (.invokevirtual 227, 3) := by decide +kernel
theorem dX11_season_82 : decode cX11_season 82 = .ok (.invokevirtual 230, 3) := by decide +kernel
theorem dX11_season_85 : decode cX11_season 85 = .ok (.aload_n 0, 1) := by decide +kernel
theorem dX11_season_86 : decode cX11_season 86 = .ok (.getfield 12, 3) := by decide +kernel
theorem dX11_season_89 : decode cX11_season 89 = .ok (.getfield 189, 3) := by decide +kernel
theorem dX11_season_92 : decode cX11_season 92 = .ok (.invokevirtual 262, 3) := by decide +kernel
theorem dX11_season_95 : decode cX11_season 95 = .ok (.aload_n 0, 1) := by decide +kernel
theorem dX11_season_96 : decode cX11_season 96 = .ok (.getfield 26, 3) := by decide +kernel
theorem dX11_season_99 : decode cX11_season 99 = .ok (.invokevirtual 278, 3) := by decide +kernel
theorem dX11_season_102 : decode cX11_season 102 = .ok (.istore 6, 2) := by decide +kernel
theorem dX11_season_104 : decode cX11_season 104 = .ok (.iload 5, 2) := by decide +kernel
theorem dX11_season_106 : decode cX11_season 106 = .ok (.ifCond .le 13, 3) := by decide +kernel
theorem dX11_season_109 : decode cX11_season 109 = .ok (.iload 6, 2) := by decide +kernel
theorem dX11_season_111 : decode cX11_season 111 = .ok (.iload 4, 2) := by decide +kernel
theorem dX11_season_113 : decode cX11_season 113 = .ok (.if_icmp .eq 6, 3) := by decide +kernel
theorem dX11_season_116 : decode cX11_season 116 = .ok (.iinc 3 1, 3) := by decide +kernel
theorem dX11_season_119 : decode cX11_season 119 = .ok (.iload 6, 2) := by decide +kernel
theorem dX11_season_121 : decode cX11_season 121 = .ok (.istore 4, 2) := by decide +kernel
theorem dX11_season_123 : decode cX11_season 123 = .ok (.iinc 5 1, 3) := by decide +kernel
theorem dX11_season_126 : decode cX11_season 126 = .ok (.goto (-93), 3) := by decide +kernel
theorem dX11_season_129 : decode cX11_season 129 = .ok (.iload_n 3, 1) := by decide +kernel
theorem dX11_season_130 : decode cX11_season 130 = .ok (.ireturn, 1) := by decide +kernel
theorem dX11_stand_0 : decode cX11_stand 0 = .ok (.iload_n 1, 1) := by decide +kernel
theorem dX11_stand_1 : decode cX11_stand 1 = .ok (.invokestatic 258, 3) := by decide +kernel
theorem dX11_stand_4 : decode cX11_stand 4 = .ok (.ifCond .eq 24, 3) := by decide +kernel
theorem dX11_stand_7 : decode cX11_stand 7 = .ok (.iload_n 2, 1) := by decide +kernel
theorem dX11_stand_8 : decode cX11_stand 8 = .ok (.invokestatic 185, 3) := by decide +kernel
theorem dX11_stand_11 : decode cX11_stand 11 = .ok (.ifCond .eq 17, 3) := by decide +kernel
theorem dX11_stand_14 : decode cX11_stand 14 = .ok (.aload_n 0, 1) := by decide +kernel
theorem dX11_stand_15 : decode cX11_stand 15 = .ok (.getfield 12, 3) := by decide +kernel
theorem dX11_stand_18 : decode cX11_stand 18 = .ok (.getfield 189, 3) := by decide +kernel
theorem dX11_stand_21 : decode cX11_stand 21 = .ok (.iload_n 3, 1) := by decide +kernel
theorem dX11_stand_22 : decode cX11_stand 22 = .ok (.invokevirtual 236, 3) := by decide +kernel
theorem dX11_stand_25 : decode cX11_stand 25 = .ok (.ifCond .ne 6, 3) := by decide +kernel
theorem dX11_stand_28 : decode cX11_stand 28 = .ok (.bipush (-2), 2) := by decide +kernel
theorem dX11_stand_30 : decode cX11_stand 30 = .ok (.ireturn, 1) := by decide +kernel
theorem dX11_stand_31 : decode cX11_stand 31 = .ok (.aload_n 0, 1) := by decide +kernel
theorem dX11_stand_32 : decode cX11_stand 32 = .ok (.getfield 12, 3) := by decide +kernel
theorem dX11_stand_35 : decode cX11_stand 35 = .ok (.iload_n 2, 1) := by decide +kernel
theorem dX11_stand_36 : decode cX11_stand 36 = .ok (.iload_n 1, 1) := by decide +kernel
theorem dX11_stand_37 : decode cX11_stand 37 = .ok (.iload_n 2, 1) := by decide +kernel
theorem dX11_stand_38 : decode cX11_stand 38 = .ok (.aload_n 0, 1) := by decide +kernel
theorem dX11_stand_39 : decode cX11_stand 39 = .ok (.getfield 129, 3) := by decide +kernel
theorem dX11_stand_42 : decode cX11_stand 42 = .ok (.isub, 1) := by decide +kernel
theorem dX11_stand_43 : decode cX11_stand 43 = .ok (.iconst 2, 1) := by decide +kernel
theorem dX11_stand_44 : decode cX11_stand 44 = .ok (.idiv, 1) := by decide +kernel
theorem dX11_stand_45 : decode cX11_stand 45 = .ok (.invokevirtual 281, 3) := by decide +kernel
theorem dX11_stand_48 : decode cX11_stand 48 = .ok (.aload_n 0, 1) := by decide +kernel
theorem dX11_stand_49 : decode cX11_stand 49 = .ok (.getfield 12, 3) := by decide +kernel
theorem dX11_stand_52 : decode cX11_stand 52 = .ok (.aload_n 0, 1) := by decide +kernel
theorem dX11_stand_53 : decode cX11_stand 53 = .ok (.getfield 12, 3) := by decide +kernel
theorem dX11_stand_56 : decode cX11_stand 56 = .ok (.getfield 189, 3) := by decide +kernel
theorem dX11_stand_59 : decode cX11_stand 59 = .ok (.iload_n 1, 1) := by decide +kernel
theorem dX11_stand_60 : decode cX11_stand 60 = .ok (.iload_n 3, 1) := by decide +kernel
theorem dX11_stand_61 : decode cX11_stand 61 = .ok (.invokevirtual 285, 3) := by decide +kernel
theorem dX11_stand_64 : decode cX11_stand 64 = .ok (.invokevirtual 230, 3) := by decide +kernel
theorem dX11_stand_67 : decode cX11_stand 67 = .ok (.ireturn, 1) := by decide +kernel
theorem dX11_shown_0 : decode cX11_shown 0 = .ok (.aload_n 0, 1) := by decide +kernel
theorem dX11_shown_1 : decode cX11_shown 1 = .ok (.getfield 33, 3) := by decide +kernel
theorem dX11_shown_4 : decode cX11_shown 4 = .ok (.iload_n 1, 1) := by decide +kernel
theorem dX11_shown_5 : decode cX11_shown 5 = .ok (.iload_n 2, 1) := by decide +kernel
theorem dX11_shown_6 : decode cX11_shown 6 = .ok (.invokevirtual 288, 3) := by decide +kernel
theorem dX11_shown_9 : decode cX11_shown 9 = .ok (.ireturn, 1) := by decide +kernel
theorem dX11_split_0 : decode cX11_split 0 = .ok (.aload_n 0, 1) := by decide +kernel
theorem dX11_split_1 : decode cX11_split 1 = .ok (.getfield 33, 3) := by decide +kernel
theorem dX11_split_4 : decode cX11_split 4 = .ok (.invokevirtual 289, 3) := by decide +kernel
theorem dX11_split_7 : decode cX11_split 7 = .ok (.ireturn, 1) := by decide +kernel
theorem dX11_image_0 : decode cX11_image 0 = .ok (.aload_n 0, 1) := by decide +kernel
theorem dX11_image_1 : decode cX11_image 1 = .ok (.getfield 47, 3) := by decide +kernel
theorem dX11_image_4 : decode cX11_image 4 = .ok (.aload_n 0, 1) := by decide +kernel
theorem dX11_image_5 : decode cX11_image 5 = .ok (.getfield 12, 3) := by decide +kernel
theorem dX11_image_8 : decode cX11_image 8 = .ok (.getfield 86, 3) := by decide +kernel
theorem dX11_image_11 : decode cX11_image 11 = .ok (.getfield 292, 3) := by decide +kernel
theorem dX11_image_14 : decode cX11_image 14 = .ok (.putfield 292, 3) := by decide +kernel
theorem dX11_image_17 : decode cX11_image 17 = .ok (.aload_n 0, 1) := by decide +kernel
theorem dX11_image_18 : decode cX11_image 18 = .ok (.getfield 47, 3) := by decide +kernel
theorem dX11_image_21 : decode cX11_image 21 = .ok (.aload_n 0, 1) := by decide +kernel
theorem dX11_image_22 : decode cX11_image 22 = .ok (.getfield 12, 3) := by decide +kernel
theorem dX11_image_25 : decode cX11_image 25 = .ok (.getfield 86, 3) := by decide +kernel
theorem dX11_image_28 : decode cX11_image 28 = .ok (.invokevirtual 293, 3) := by decide +kernel
theorem dX11_image_31 : decode cX11_image 31 = .ok (.aload_n 0, 1) := by decide +kernel
theorem dX11_image_32 : decode cX11_image 32 = .ok (.aload_n 0, 1) := by decide +kernel
theorem dX11_image_33 : decode cX11_image 33 = .ok (.getfield 129, 3) := by decide +kernel
theorem dX11_image_36 : decode cX11_image 36 = .ok (.putfield 297, 3) := by decide +kernel
theorem dX11_image_39 : decode cX11_image 39 = .ok (.aload_n 0, 1) := by decide +kernel
theorem dX11_image_40 : decode cX11_image 40 = .ok (.aload_n 0, 1) := by decide +kernel
theorem dX11_image_41 : decode cX11_image 41 = .ok (.getfield 12, 3) := by decide +kernel
theorem dX11_image_44 : decode cX11_image 44 = .ok (.getfield 76, 3) := by decide +kernel
theorem dX11_image_47 : decode cX11_image 47 = .ok (.getfield 178, 3) := by decide +kernel
theorem dX11_image_50 : decode cX11_image 50 = .ok (.putfield 300, 3) := by decide +kernel
theorem dX11_image_53 : decode cX11_image 53 = .ok (.aload_n 0, 1) := by decide +kernel
theorem dX11_image_54 : decode cX11_image 54 = .ok (.iconst 1, 1) := by decide +kernel
theorem dX11_image_55 : decode cX11_image 55 = .ok (.putfield 303, 3) := by decide +kernel
theorem dX11_image_58 : decode cX11_image 58 = .ok (.aload_n 0, 1) := by decide +kernel
theorem dX11_image_59 : decode cX11_image 59 = .ok (.getfield 129, 3) := by decide +kernel
theorem dX11_image_62 : decode cX11_image 62 = .ok (.ireturn, 1) := by decide +kernel
theorem dX11_back_0 : decode cX11_back 0 = .ok (.aload_n 0, 1) := by decide +kernel
theorem dX11_back_1 : decode cX11_back 1 = .ok (.getfield 303, 3) := by decide +kernel
theorem dX11_back_4 : decode cX11_back 4 = .ok (.ifCond .ne 6, 3) := by decide +kernel
theorem dX11_back_7 : decode cX11_back 7 = .ok (.bipush (-3), 2) := by decide +kernel
theorem dX11_back_9 : decode cX11_back 9 = .ok (.ireturn, 1) := by decide +kernel
theorem dX11_back_10 : decode cX11_back 10 = .ok (.aload_n 0, 1) := by decide +kernel
theorem dX11_back_11 : decode cX11_back 11 = .ok (.getfield 12, 3) := by decide +kernel
theorem dX11_back_14 : decode cX11_back 14 = .ok (.getfield 86, 3) := by decide +kernel
theorem dX11_back_17 : decode cX11_back 17 = .ok (.aload_n 0, 1) := by decide +kernel
theorem dX11_back_18 : decode cX11_back 18 = .ok (.getfield 47, 3) := by decide +kernel
theorem dX11_back_21 : decode cX11_back 21 = .ok (.invokevirtual 293, 3) := by decide +kernel
theorem dX11_back_24 : decode cX11_back 24 = .ok (.aload_n 0, 1) := by decide +kernel
theorem dX11_back_25 : decode cX11_back 25 = .ok (.aload_n 0, 1) := by decide +kernel
theorem dX11_back_26 : decode cX11_back 26 = .ok (.getfield 297, 3) := by decide +kernel
theorem dX11_back_29 : decode cX11_back 29 = .ok (.putfield 129, 3) := by decide +kernel
theorem dX11_back_32 : decode cX11_back 32 = .ok (.aload_n 0, 1) := by decide +kernel
theorem dX11_back_33 : decode cX11_back 33 = .ok (.getfield 12, 3) := by decide +kernel
theorem dX11_back_36 : decode cX11_back 36 = .ok (.getfield 76, 3) := by decide +kernel
theorem dX11_back_39 : decode cX11_back 39 = .ok (.aload_n 0, 1) := by decide +kernel
theorem dX11_back_40 : decode cX11_back 40 = .ok (.getfield 300, 3) := by decide +kernel
theorem dX11_back_43 : decode cX11_back 43 = .ok (.putfield 178, 3) := by decide +kernel
theorem dX11_back_46 : decode cX11_back 46 = .ok (.aload_n 0, 1) := by decide +kernel
theorem dX11_back_47 : decode cX11_back 47 = .ok (.getfield 129, 3) := by decide +kernel
theorem dX11_back_50 : decode cX11_back 50 = .ok (.ireturn, 1) := by decide +kernel
theorem dX11_count_0 : decode cX11_count 0 = .ok (.iload_n 1, 1) := by decide +kernel
theorem dX11_count_1 : decode cX11_count 1 = .ok (.tableswitch 153 0 9 #[55, 66, 77, 88, 99, 107, 115, 126, 137, 148], 55) := by decide +kernel
theorem dX11_count_56 : decode cX11_count 56 = .ok (.aload_n 0, 1) := by decide +kernel
theorem dX11_count_57 : decode cX11_count 57 = .ok (.getfield 12, 3) := by decide +kernel
theorem dX11_count_60 : decode cX11_count 60 = .ok (.getfield 86, 3) := by decide +kernel
theorem dX11_count_63 : decode cX11_count 63 = .ok (.getfield 292, 3) := by decide +kernel
theorem dX11_count_66 : decode cX11_count 66 = .ok (.ireturn, 1) := by decide +kernel
theorem dX11_count_67 : decode cX11_count 67 = .ok (.aload_n 0, 1) := by decide +kernel
theorem dX11_count_68 : decode cX11_count 68 = .ok (.getfield 12, 3) := by decide +kernel
theorem dX11_count_71 : decode cX11_count 71 = .ok (.getfield 149, 3) := by decide +kernel
theorem dX11_count_74 : decode cX11_count 74 = .ok (.getfield 307, 3) := by decide +kernel
theorem dX11_count_77 : decode cX11_count 77 = .ok (.ireturn, 1) := by decide +kernel
theorem dX11_count_78 : decode cX11_count 78 = .ok (.aload_n 0, 1) := by decide +kernel
theorem dX11_count_79 : decode cX11_count 79 = .ok (.getfield 12, 3) := by decide +kernel
theorem dX11_count_82 : decode cX11_count 82 = .ok (.getfield 165, 3) := by decide +kernel
theorem dX11_count_85 : decode cX11_count 85 = .ok (.getfield 308, 3) := by decide +kernel
theorem dX11_count_88 : decode cX11_count 88 = .ok (.ireturn, 1) := by decide +kernel
theorem dX11_count_89 : decode cX11_count 89 = .ok (.aload_n 0, 1) := by decide +kernel
theorem dX11_count_90 : decode cX11_count 90 = .ok (.getfield 12, 3) := by decide +kernel
theorem dX11_count_93 : decode cX11_count 93 = .ok (.getfield 189, 3) := by decide +kernel
theorem dX11_count_96 : decode cX11_count 96 = .ok (.getfield 309, 3) := by decide +kernel
theorem dX11_count_99 : decode cX11_count 99 = .ok (.ireturn, 1) := by decide +kernel
theorem dX11_count_100 : decode cX11_count 100 = .ok (.aload_n 0, 1) := by decide +kernel
theorem dX11_count_101 : decode cX11_count 101 = .ok (.getfield 26, 3) := by decide +kernel
theorem dX11_count_104 : decode cX11_count 104 = .ok (.getfield 310, 3) := by decide +kernel
theorem dX11_count_107 : decode cX11_count 107 = .ok (.ireturn, 1) := by decide +kernel
theorem dX11_count_108 : decode cX11_count 108 = .ok (.aload_n 0, 1) := by decide +kernel
theorem dX11_count_109 : decode cX11_count 109 = .ok (.getfield 33, 3) := by decide +kernel
theorem dX11_count_112 : decode cX11_count 112 = .ok (.getfield 311, 3) := by decide +kernel
theorem dX11_count_115 : decode cX11_count 115 = .ok (.ireturn, 1) := by decide +kernel
theorem dX11_count_116 : decode cX11_count 116 = .ok (.aload_n 0, 1) := by decide +kernel
theorem dX11_count_117 : decode cX11_count 117 = .ok (.getfield 12, 3) := by decide +kernel
theorem dX11_count_120 : decode cX11_count 120 = .ok (.getfield 76, 3) := by decide +kernel
theorem dX11_count_123 : decode cX11_count 123 = .ok (.getfield 176, 3) := by decide +kernel
theorem dX11_count_126 : decode cX11_count 126 = .ok (.ireturn, 1) := by decide +kernel
theorem dX11_count_127 : decode cX11_count 127 = .ok (.aload_n 0, 1) := by decide +kernel
theorem dX11_count_128 : decode cX11_count 128 = .ok (.getfield 19, 3) := by decide +kernel
theorem dX11_count_131 : decode cX11_count 131 = .ok (.getfield 59, 3) := by decide +kernel
theorem dX11_count_134 : decode cX11_count 134 = .ok (.getfield 173, 3) := by decide +kernel
theorem dX11_count_137 : decode cX11_count 137 = .ok (.ireturn, 1) := by decide +kernel
theorem dX11_count_138 : decode cX11_count 138 = .ok (.aload_n 0, 1) := by decide +kernel
theorem dX11_count_139 : decode cX11_count 139 = .ok (.getfield 12, 3) := by decide +kernel
theorem dX11_count_142 : decode cX11_count 142 = .ok (.getfield 76, 3) := by decide +kernel
theorem dX11_count_145 : decode cX11_count 145 = .ok (.getfield 178, 3) := by decide +kernel
theorem dX11_count_148 : decode cX11_count 148 = .ok (.ireturn, 1) := by decide +kernel
theorem dX11_count_149 : decode cX11_count 149 = .ok (.aload_n 0, 1) := by decide +kernel
theorem dX11_count_150 : decode cX11_count 150 = .ok (.getfield 129, 3) := by decide +kernel
theorem dX11_count_153 : decode cX11_count 153 = .ok (.ireturn, 1) := by decide +kernel
theorem dX11_count_154 : decode cX11_count 154 = .ok (.bipush (-2), 2) := by decide +kernel
theorem dX11_count_156 : decode cX11_count 156 = .ok (.ireturn, 1) := by decide +kernel
theorem dX11_sheet_0 : decode cX11_sheet 0 = .ok (.iload_n 1, 1) := by decide +kernel
theorem dX11_sheet_1 : decode cX11_sheet 1 = .ok (.invokestatic 233, 3) := by decide +kernel
theorem dX11_sheet_4 : decode cX11_sheet 4 = .ok (.ifCond .eq 12, 3) := by decide +kernel
theorem dX11_sheet_7 : decode cX11_sheet 7 = .ok (.iload_n 2, 1) := by decide +kernel
theorem dX11_sheet_8 : decode cX11_sheet 8 = .ok (.iconst (-1), 1) := by decide +kernel
theorem dX11_sheet_9 : decode cX11_sheet 9 = .ok (.iconst 2, 1) := by decide +kernel
theorem dX11_sheet_10 : decode cX11_sheet 10 = .ok (.invokestatic 100, 3) := by decide +kernel
theorem dX11_sheet_13 : decode cX11_sheet 13 = .ok (.ifCond .ne 6, 3) := by decide +kernel
theorem dX11_sheet_16 : decode cX11_sheet 16 = .ok (.bipush (-2), 2) := by decide +kernel
theorem dX11_sheet_18 : decode cX11_sheet 18 = .ok (.ireturn, 1) := by decide +kernel
theorem dX11_sheet_19 : decode cX11_sheet 19 = .ok (.iload_n 2, 1) := by decide +kernel
theorem dX11_sheet_20 : decode cX11_sheet 20 = .ok (.iconst (-1), 1) := by decide +kernel
theorem dX11_sheet_21 : decode cX11_sheet 21 = .ok (.if_icmp .ne 15, 3) := by decide +kernel
theorem dX11_sheet_24 : decode cX11_sheet 24 = .ok (.aload_n 0, 1) := by decide +kernel
theorem dX11_sheet_25 : decode cX11_sheet 25 = .ok (.getfield 40, 3) := by decide +kernel
theorem dX11_sheet_28 : decode cX11_sheet 28 = .ok (.iload_n 1, 1) := by decide +kernel
theorem dX11_sheet_29 : decode cX11_sheet 29 = .ok (.iconst (-1), 1) := by decide +kernel
theorem dX11_sheet_30 : decode cX11_sheet 30 = .ok (.iconst 0, 1) := by decide +kernel
theorem dX11_sheet_31 : decode cX11_sheet 31 = .ok (.invokevirtual 312, 3) := by decide +kernel
theorem dX11_sheet_34 : decode cX11_sheet 34 = .ok (.iconst 1, 1) := by decide +kernel
theorem dX11_sheet_35 : decode cX11_sheet 35 = .ok (.ireturn, 1) := by decide +kernel
theorem dX11_sheet_36 : decode cX11_sheet 36 = .ok (.iload_n 3, 1) := by decide +kernel
theorem dX11_sheet_37 : decode cX11_sheet 37 = .ok (.bipush 40, 2) := by decide +kernel
theorem dX11_sheet_39 : decode cX11_sheet 39 = .ok (.if_icmp .le 6, 3) := by decide +kernel
theorem dX11_sheet_42 : decode cX11_sheet 42 = .ok (.bipush (-2), 2) := by decide +kernel
theorem dX11_sheet_44 : decode cX11_sheet 44 = .ok (.ireturn, 1) := by decide +kernel
theorem dX11_sheet_45 : decode cX11_sheet 45 = .ok (.iload_n 3, 1) := by decide +kernel
theorem dX11_sheet_46 : decode cX11_sheet 46 = .ok (.ifCond .ge 6, 3) := by decide +kernel
theorem dX11_sheet_49 : decode cX11_sheet 49 = .ok (.bipush (-14), 2) := by decide +kernel
theorem dX11_sheet_51 : decode cX11_sheet 51 = .ok (.ireturn, 1) := by decide +kernel
theorem dX11_sheet_52 : decode cX11_sheet 52 = .ok (.aload_n 0, 1) := by decide +kernel
theorem dX11_sheet_53 : decode cX11_sheet 53 = .ok (.getfield 40, 3) := by decide +kernel
theorem dX11_sheet_56 : decode cX11_sheet 56 = .ok (.iload_n 1, 1) := by decide +kernel
theorem dX11_sheet_57 : decode cX11_sheet 57 = .ok (.iload_n 2, 1) := by decide +kernel
theorem dX11_sheet_58 : decode cX11_sheet 58 = .ok (.iload_n 3, 1) := by decide +kernel
theorem dX11_sheet_59 : decode cX11_sheet 59 = .ok (.invokevirtual 312, 3) := by decide +kernel
theorem dX11_sheet_62 : decode cX11_sheet 62 = .ok (.iconst 1, 1) := by decide +kernel
theorem dX11_sheet_63 : decode cX11_sheet 63 = .ok (.ireturn, 1) := by decide +kernel
theorem dX11_cell_0 : decode cX11_cell 0 = .ok (.iload_n 1, 1) := by decide +kernel
theorem dX11_cell_1 : decode cX11_cell 1 = .ok (.invokestatic 233, 3) := by decide +kernel
theorem dX11_cell_4 : decode cX11_cell 4 = .ok (.ifCond .ne 6, 3) := by decide +kernel
theorem dX11_cell_7 : decode cX11_cell 7 = .ok (.bipush (-2), 2) := by decide +kernel
theorem dX11_cell_9 : decode cX11_cell 9 = .ok (.ireturn, 1) := by decide +kernel
theorem dX11_cell_10 : decode cX11_cell 10 = .ok (.aload_n 0, 1) := by decide +kernel
theorem dX11_cell_11 : decode cX11_cell 11 = .ok (.getfield 40, 3) := by decide +kernel
theorem dX11_cell_14 : decode cX11_cell 14 = .ok (.iload_n 1, 1) := by decide +kernel
theorem dX11_cell_15 : decode cX11_cell 15 = .ok (.invokevirtual 315, 3) := by decide +kernel
theorem dX11_cell_18 : decode cX11_cell 18 = .ok (.ifCond .eq 6, 3) := by decide +kernel
theorem dX11_cell_21 : decode cX11_cell 21 = .ok (.bipush (-11), 2) := by decide +kernel
theorem dX11_cell_23 : decode cX11_cell 23 = .ok (.ireturn, 1) := by decide +kernel
theorem dX11_cell_24 : decode cX11_cell 24 = .ok (.aload_n 0, 1) := by decide +kernel
theorem dX11_cell_25 : decode cX11_cell 25 = .ok (.getfield 40, 3) := by decide +kernel
theorem dX11_cell_28 : decode cX11_cell 28 = .ok (.iload_n 1, 1) := by decide +kernel
theorem dX11_cell_29 : decode cX11_cell 29 = .ok (.iload_n 2, 1) := by decide +kernel
theorem dX11_cell_30 : decode cX11_cell 30 = .ok (.invokevirtual 242, 3) := by decide +kernel
theorem dX11_cell_33 : decode cX11_cell 33 = .ok (.ifCond .ne 6, 3) := by decide +kernel
theorem dX11_cell_36 : decode cX11_cell 36 = .ok (.bipush (-12), 2) := by decide +kernel
theorem dX11_cell_38 : decode cX11_cell 38 = .ok (.ireturn, 1) := by decide +kernel
theorem dX11_cell_39 : decode cX11_cell 39 = .ok (.aload_n 0, 1) := by decide +kernel
theorem dX11_cell_40 : decode cX11_cell 40 = .ok (.getfield 40, 3) := by decide +kernel
theorem dX11_cell_43 : decode cX11_cell 43 = .ok (.iload_n 1, 1) := by decide +kernel
theorem dX11_cell_44 : decode cX11_cell 44 = .ok (.iload_n 2, 1) := by decide +kernel
theorem dX11_cell_45 : decode cX11_cell 45 = .ok (.iload_n 3, 1) := by decide +kernel
theorem dX11_cell_46 : decode cX11_cell 46 = .ok (.invokevirtual 318, 3) := by decide +kernel
theorem dX11_cell_49 : decode cX11_cell 49 = .ok (.iconst 1, 1) := by decide +kernel
theorem dX11_cell_50 : decode cX11_cell 50 = .ok (.ireturn, 1) := by decide +kernel
theorem dX11_copy_0 : decode cX11_copy 0 = .ok (.iload_n 1, 1) := by decide +kernel
theorem dX11_copy_1 : decode cX11_copy 1 = .ok (.invokestatic 233, 3) := by decide +kernel
theorem dX11_copy_4 : decode cX11_copy 4 = .ok (.ifCond .eq 10, 3) := by decide +kernel
theorem dX11_copy_7 : decode cX11_copy 7 = .ok (.iload_n 3, 1) := by decide +kernel
theorem dX11_copy_8 : decode cX11_copy 8 = .ok (.invokestatic 233, 3) := by decide +kernel
theorem dX11_copy_11 : decode cX11_copy 11 = .ok (.ifCond .ne 6, 3) := by decide +kernel
theorem dX11_copy_14 : decode cX11_copy 14 = .ok (.bipush (-2), 2) := by decide +kernel
theorem dX11_copy_16 : decode cX11_copy 16 = .ok (.ireturn, 1) := by decide +kernel
theorem dX11_copy_17 : decode cX11_copy 17 = .ok (.aload_n 0, 1) := by decide +kernel
theorem dX11_copy_18 : decode cX11_copy 18 = .ok (.getfield 40, 3) := by decide +kernel
theorem dX11_copy_21 : decode cX11_copy 21 = .ok (.iload_n 1, 1) := by decide +kernel
theorem dX11_copy_22 : decode cX11_copy 22 = .ok (.invokevirtual 315, 3) := by decide +kernel
theorem dX11_copy_25 : decode cX11_copy 25 = .ok (.ifCond .ne 14, 3) := by decide +kernel
theorem dX11_copy_28 : decode cX11_copy 28 = .ok (.aload_n 0, 1) := by decide +kernel
theorem dX11_copy_29 : decode cX11_copy 29 = .ok (.getfield 40, 3) := by decide +kernel
theorem dX11_copy_32 : decode cX11_copy 32 = .ok (.iload_n 3, 1) := by decide +kernel
theorem dX11_copy_33 : decode cX11_copy 33 = .ok (.invokevirtual 315, 3) := by decide +kernel
theorem dX11_copy_36 : decode cX11_copy 36 = .ok (.ifCond .eq 6, 3) := by decide +kernel
theorem dX11_copy_39 : decode cX11_copy 39 = .ok (.bipush (-11), 2) := by decide +kernel
theorem dX11_copy_41 : decode cX11_copy 41 = .ok (.ireturn, 1) := by decide +kernel
theorem dX11_copy_42 : decode cX11_copy 42 = .ok (.aload_n 0, 1) := by decide +kernel
theorem dX11_copy_43 : decode cX11_copy 43 = .ok (.getfield 40, 3) := by decide +kernel
theorem dX11_copy_46 : decode cX11_copy 46 = .ok (.getfield 320, 3) := by decide +kernel
theorem dX11_copy_49 : decode cX11_copy 49 = .ok (.iload_n 1, 1) := by decide +kernel
theorem dX11_copy_50 : decode cX11_copy 50 = .ok (.iaload, 1) := by decide +kernel
theorem dX11_copy_51 : decode cX11_copy 51 = .ok (.aload_n 0, 1) := by decide +kernel
theorem dX11_copy_52 : decode cX11_copy 52 = .ok (.getfield 40, 3) := by decide +kernel
theorem dX11_copy_55 : decode cX11_copy 55 = .ok (.getfield 320, 3) := by decide +kernel
theorem dX11_copy_58 : decode cX11_copy 58 = .ok (.iload_n 3, 1) := by decide +kernel
theorem dX11_copy_59 : decode cX11_copy 59 = .ok (.iaload, 1) := by decide +kernel
theorem dX11_copy_60 : decode cX11_copy 60 = .ok (.if_icmp .eq 6, 3) := by decide +kernel
theorem dX11_copy_63 : decode cX11_copy 63 = .ok (.bipush (-13), 2) := by decide +kernel
theorem dX11_copy_65 : decode cX11_copy 65 = .ok (.ireturn, 1) := by decide +kernel
theorem dX11_copy_66 : decode cX11_copy 66 = .ok (.aload_n 0, 1) := by decide +kernel
theorem dX11_copy_67 : decode cX11_copy 67 = .ok (.getfield 40, 3) := by decide +kernel
theorem dX11_copy_70 : decode cX11_copy 70 = .ok (.iload_n 1, 1) := by decide +kernel
theorem dX11_copy_71 : decode cX11_copy 71 = .ok (.iload_n 2, 1) := by decide +kernel
theorem dX11_copy_72 : decode cX11_copy 72 = .ok (.iload 5, 2) := by decide +kernel
theorem dX11_copy_74 : decode cX11_copy 74 = .ok (.invokevirtual 323, 3) := by decide +kernel
theorem dX11_copy_77 : decode cX11_copy 77 = .ok (.ifCond .eq 18, 3) := by decide +kernel
theorem dX11_copy_80 : decode cX11_copy 80 = .ok (.aload_n 0, 1) := by decide +kernel
theorem dX11_copy_81 : decode cX11_copy 81 = .ok (.getfield 40, 3) := by decide +kernel
theorem dX11_copy_84 : decode cX11_copy 84 = .ok (.iload_n 3, 1) := by decide +kernel
theorem dX11_copy_85 : decode cX11_copy 85 = .ok (.iload 4, 2) := by decide +kernel
theorem dX11_copy_87 : decode cX11_copy 87 = .ok (.iload 5, 2) := by decide +kernel
theorem dX11_copy_89 : decode cX11_copy 89 = .ok (.invokevirtual 323, 3) := by decide +kernel
theorem dX11_copy_92 : decode cX11_copy 92 = .ok (.ifCond .ne 6, 3) := by decide +kernel
theorem dX11_copy_95 : decode cX11_copy 95 = .ok (.bipush (-12), 2) := by decide +kernel
theorem dX11_copy_97 : decode cX11_copy 97 = .ok (.ireturn, 1) := by decide +kernel
theorem dX11_copy_98 : decode cX11_copy 98 = .ok (.aload_n 0, 1) := by decide +kernel
theorem dX11_copy_99 : decode cX11_copy 99 = .ok (.getfield 40, 3) := by decide +kernel
theorem dX11_copy_102 : decode cX11_copy 102 = .ok (.getfield 326, 3) := by decide +kernel
theorem dX11_copy_105 : decode cX11_copy 105 = .ok (.iload_n 1, 1) := by decide +kernel
theorem dX11_copy_106 : decode cX11_copy 106 = .ok (.bipush 40, 2) := by decide +kernel
theorem dX11_copy_108 : decode cX11_copy 108 = .ok (.imul, 1) := by decide +kernel
theorem dX11_copy_109 : decode cX11_copy 109 = .ok (.iload_n 2, 1) := by decide +kernel
theorem dX11_copy_110 : decode cX11_copy 110 = .ok (.iadd, 1) := by decide +kernel
theorem dX11_copy_111 : decode cX11_copy 111 = .ok (.aload_n 0, 1) := by decide +kernel
theorem dX11_copy_112 : decode cX11_copy 112 = .ok (.getfield 40, 3) := by decide +kernel
theorem dX11_copy_115 : decode cX11_copy 115 = .ok (.getfield 326, 3) := by decide +kernel
theorem dX11_copy_118 : decode cX11_copy 118 = .ok (.iload_n 3, 1) := by decide +kernel
theorem dX11_copy_119 : decode cX11_copy 119 = .ok (.bipush 40, 2) := by decide +kernel
theorem dX11_copy_121 : decode cX11_copy 121 = .ok (.imul, 1) := by decide +kernel
theorem dX11_copy_122 : decode cX11_copy 122 = .ok (.iload 4, 2) := by decide +kernel
theorem dX11_copy_124 : decode cX11_copy 124 = .ok (.iadd, 1) := by decide +kernel
theorem dX11_copy_125 : decode cX11_copy 125 = .ok (.iload 5, 2) := by decide +kernel
theorem dX11_copy_127 : decode cX11_copy 127 = .ok (.invokestatic 329, 3) := by decide +kernel
theorem dX11_copy_130 : decode cX11_copy 130 = .ok (.iload 5, 2) := by decide +kernel
theorem dX11_copy_132 : decode cX11_copy 132 = .ok (.ireturn, 1) := by decide +kernel
theorem dX11_men_0 : decode cX11_men 0 = .ok (.iload_n 1, 1) := by decide +kernel
theorem dX11_men_1 : decode cX11_men 1 = .ok (.invokestatic 233, 3) := by decide +kernel
theorem dX11_men_4 : decode cX11_men 4 = .ok (.ifCond .eq 23, 3) := by decide +kernel
theorem dX11_men_7 : decode cX11_men 7 = .ok (.iload_n 2, 1) := by decide +kernel
theorem dX11_men_8 : decode cX11_men 8 = .ok (.iconst 0, 1) := by decide +kernel
theorem dX11_men_9 : decode cX11_men 9 = .ok (.iconst 2, 1) := by decide +kernel
theorem dX11_men_10 : decode cX11_men 10 = .ok (.invokestatic 100, 3) := by decide +kernel
theorem dX11_men_13 : decode cX11_men 13 = .ok (.ifCond .eq 14, 3) := by decide +kernel
theorem dX11_men_16 : decode cX11_men 16 = .ok (.iload 4, 2) := by decide +kernel
theorem dX11_men_18 : decode cX11_men 18 = .ok (.iconst 0, 1) := by decide +kernel
theorem dX11_men_19 : decode cX11_men 19 = .ok (.bipush 10, 2) := by decide +kernel
theorem dX11_men_21 : decode cX11_men 21 = .ok (.invokestatic 100, 3) := by decide +kernel
theorem dX11_men_24 : decode cX11_men 24 = .ok (.ifCond .ne 6, 3) := by decide +kernel
theorem dX11_men_27 : decode cX11_men 27 = .ok (.bipush (-2), 2) := by decide +kernel
theorem dX11_men_29 : decode cX11_men 29 = .ok (.ireturn, 1) := by decide +kernel
theorem dX11_men_30 : decode cX11_men 30 = .ok (.aload_n 0, 1) := by decide +kernel
theorem dX11_men_31 : decode cX11_men 31 = .ok (.getfield 40, 3) := by decide +kernel
theorem dX11_men_34 : decode cX11_men 34 = .ok (.iload_n 1, 1) := by decide +kernel
theorem dX11_men_35 : decode cX11_men 35 = .ok (.invokevirtual 315, 3) := by decide +kernel
theorem dX11_men_38 : decode cX11_men 38 = .ok (.ifCond .ne 19, 3) := by decide +kernel
theorem dX11_men_41 : decode cX11_men 41 = .ok (.aload_n 0, 1) := by decide +kernel
theorem dX11_men_42 : decode cX11_men 42 = .ok (.getfield 40, 3) := by decide +kernel
theorem dX11_men_45 : decode cX11_men 45 = .ok (.getfield 320, 3) := by decide +kernel
theorem dX11_men_48 : decode cX11_men 48 = .ok (.iload_n 1, 1) := by decide +kernel
theorem dX11_men_49 : decode cX11_men 49 = .ok (.iaload, 1) := by decide +kernel
theorem dX11_men_50 : decode cX11_men 50 = .ok (.iload_n 2, 1) := by decide +kernel
theorem dX11_men_51 : decode cX11_men 51 = .ok (.if_icmp .eq 6, 3) := by decide +kernel
theorem dX11_men_54 : decode cX11_men 54 = .ok (.bipush (-13), 2) := by decide +kernel
theorem dX11_men_56 : decode cX11_men 56 = .ok (.ireturn, 1) := by decide +kernel
theorem dX11_men_57 : decode cX11_men 57 = .ok (.aload_n 0, 1) := by decide +kernel
theorem dX11_men_58 : decode cX11_men 58 = .ok (.getfield 40, 3) := by decide +kernel
theorem dX11_men_61 : decode cX11_men 61 = .ok (.iload_n 1, 1) := by decide +kernel
theorem dX11_men_62 : decode cX11_men 62 = .ok (.invokevirtual 315, 3) := by decide +kernel
theorem dX11_men_65 : decode cX11_men 65 = .ok (.ifCond .eq 6, 3) := by decide +kernel
theorem dX11_men_68 : decode cX11_men 68 = .ok (.bipush (-11), 2) := by decide +kernel
theorem dX11_men_70 : decode cX11_men 70 = .ok (.ireturn, 1) := by decide +kernel
theorem dX11_men_71 : decode cX11_men 71 = .ok (.iconst 0, 1) := by decide +kernel
theorem dX11_men_72 : decode cX11_men 72 = .ok (.istore 5, 2) := by decide +kernel
theorem dX11_men_74 : decode cX11_men 74 = .ok (.iconst 0, 1) := by decide +kernel
theorem dX11_men_75 : decode cX11_men 75 = .ok (.istore 6, 2) := by decide +kernel
theorem dX11_men_77 : decode cX11_men 77 = .ok (.iload 6, 2) := by decide +kernel
theorem dX11_men_79 : decode cX11_men 79 = .ok (.iload 4, 2) := by decide +kernel
theorem dX11_men_81 : decode cX11_men 81 = .ok (.if_icmp .ge 88, 3) := by decide +kernel
theorem dX11_men_84 : decode cX11_men 84 = .ok (.iload_n 3, 1) := by decide +kernel
theorem dX11_men_85 : decode cX11_men 85 = .ok (.iconst 3, 1) := by decide +kernel
theorem dX11_men_86 : decode cX11_men 86 = .ok (.iload 6, 2) := by decide +kernel
theorem dX11_men_88 : decode cX11_men 88 = .ok (.imul, 1) := by decide +kernel
theorem dX11_men_89 : decode cX11_men 89 = .ok (.iadd, 1) := by decide +kernel
theorem dX11_men_90 : decode cX11_men 90 = .ok (.istore 7, 2) := by decide +kernel
theorem dX11_men_92 : decode cX11_men 92 = .ok (.aload_n 0, 1) := by decide +kernel
theorem dX11_men_93 : decode cX11_men 93 = .ok (.getfield 40, 3) := by decide +kernel
theorem dX11_men_96 : decode cX11_men 96 = .ok (.iload_n 1, 1) := by decide +kernel
theorem dX11_men_97 : decode cX11_men 97 = .ok (.iload 7, 2) := by decide +kernel
theorem dX11_men_99 : decode cX11_men 99 = .ok (.iconst 3, 1) := by decide +kernel
theorem dX11_men_100 : decode cX11_men 100 = .ok (.invokevirtual 323, 3) := by decide +kernel
theorem dX11_men_103 : decode cX11_men 103 = .ok (.ifCond .ne 6, 3) := by decide +kernel
theorem dX11_men_106 : decode cX11_men 106 = .ok (.bipush (-12), 2) := by decide +kernel
theorem dX11_men_108 : decode cX11_men 108 = .ok (.ireturn, 1) := by decide +kernel
theorem dX11_men_109 : decode cX11_men 109 = .ok (.aload_n 0, 1) := by decide +kernel
theorem dX11_men_110 : decode cX11_men 110 = .ok (.getfield 40, 3) := by decide +kernel
theorem dX11_men_113 : decode cX11_men 113 = .ok (.iload_n 1, 1) := by decide +kernel
theorem dX11_men_114 : decode cX11_men 114 = .ok (.iload 7, 2) := by decide +kernel
theorem dX11_men_116 : decode cX11_men 116 = .ok (.invokevirtual 244, 3) := by decide +kernel
theorem dX11_men_119 : decode cX11_men 119 = .ok (.istore 8, 2) := by decide +kernel
theorem dX11_men_121 : decode cX11_men 121 = .ok (.aload_n 0, 1) := by decide +kernel
theorem dX11_men_122 : decode cX11_men 122 = .ok (.getfield 12, 3) := by decide +kernel
theorem dX11_men_125 : decode cX11_men 125 = .ok (.getfield 86, 3) := by decide +kernel
theorem dX11_men_128 : decode cX11_men 128 = .ok (.iload 8, 2) := by decide +kernel
theorem dX11_men_130 : decode cX11_men 130 = .ok (.aload_n 0, 1) := by decide +kernel
theorem dX11_men_131 : decode cX11_men 131 = .ok (.getfield 40, 3) := by decide +kernel
theorem dX11_men_134 : decode cX11_men 134 = .ok (.iload_n 1, 1) := by decide +kernel
theorem dX11_men_135 : decode cX11_men 135 = .ok (.iload 7, 2) := by decide +kernel
theorem dX11_men_137 : decode cX11_men 137 = .ok (.iconst 1, 1) := by decide +kernel
theorem dX11_men_138 : decode cX11_men 138 = .ok (.iadd, 1) := by decide +kernel
theorem dX11_men_139 : decode cX11_men 139 = .ok (.invokevirtual 244, 3) := by decide +kernel
theorem dX11_men_142 : decode cX11_men 142 = .ok (.aload_n 0, 1) := by decide +kernel
theorem dX11_men_143 : decode cX11_men 143 = .ok (.getfield 40, 3) := by decide +kernel
theorem dX11_men_146 : decode cX11_men 146 = .ok (.iload_n 1, 1) := by decide +kernel
theorem dX11_men_147 : decode cX11_men 147 = .ok (.iload 7, 2) := by decide +kernel
theorem dX11_men_149 : decode cX11_men 149 = .ok (.iconst 2, 1) := by decide +kernel
theorem dX11_men_150 : decode cX11_men 150 = .ok (.iadd, 1) := by decide +kernel
theorem dX11_men_151 : decode cX11_men 151 = .ok (.invokevirtual 244, 3) := by decide +kernel
theorem dX11_men_154 : decode cX11_men 154 = .ok (.invokevirtual 89, 3) := by decide +kernel
theorem dX11_men_157 : decode cX11_men 157 = .ok (.ifCond .lt 6, 3) := by decide +kernel
theorem dX11_men_160 : decode cX11_men 160 = .ok (.iinc 5 1, 3) := by decide +kernel
theorem dX11_men_163 : decode cX11_men 163 = .ok (.iinc 6 1, 3) := by decide +kernel
theorem dX11_men_166 : decode cX11_men 166 = .ok (.goto (-89), 3) := by decide +kernel
theorem dX11_men_169 : decode cX11_men 169 = .ok (.iload 5, 2) := by decide +kernel
theorem dX11_men_171 : decode cX11_men 171 = .ok (.ireturn, 1) := by decide +kernel
theorem dX11_taken_0 : decode cX11_taken 0 = .ok (.iload_n 2, 1) := by decide +kernel
theorem dX11_taken_1 : decode cX11_taken 1 = .ok (.iconst 0, 1) := by decide +kernel
theorem dX11_taken_2 : decode cX11_taken 2 = .ok (.iconst 5, 1) := by decide +kernel
theorem dX11_taken_3 : decode cX11_taken 3 = .ok (.invokestatic 100, 3) := by decide +kernel
theorem dX11_taken_6 : decode cX11_taken 6 = .ok (.ifCond .ne 6, 3) := by decide +kernel
theorem dX11_taken_9 : decode cX11_taken 9 = .ok (.bipush (-2), 2) := by decide +kernel
theorem dX11_taken_11 : decode cX11_taken 11 = .ok (.ireturn, 1) := by decide +kernel
theorem dX11_taken_12 : decode cX11_taken 12 = .ok (.aload_n 0, 1) := by decide +kernel
theorem dX11_taken_13 : decode cX11_taken 13 = .ok (.getfield 12, 3) := by decide +kernel
theorem dX11_taken_16 : decode cX11_taken 16 = .ok (.getfield 189, 3) := by decide +kernel
theorem dX11_taken_19 : decode cX11_taken 19 = .ok (.iload_n 1, 1) := by decide +kernel
theorem dX11_taken_20 : decode cX11_taken 20 = .ok (.invokevirtual 201, 3) := by decide +kernel
theorem dX11_taken_23 : decode cX11_taken 23 = .ok (.ifCond .ne 6, 3) := by decide +kernel
theorem dX11_taken_26 : decode cX11_taken 26 = .ok (.bipush (-11), 2) := by decide +kernel
theorem dX11_taken_28 : decode cX11_taken 28 = .ok (.ireturn, 1) := by decide +kernel
theorem dX11_taken_29 : decode cX11_taken 29 = .ok (.aload_n 0, 1) := by decide +kernel
theorem dX11_taken_30 : decode cX11_taken 30 = .ok (.getfield 12, 3) := by decide +kernel
theorem dX11_taken_33 : decode cX11_taken 33 = .ok (.getfield 189, 3) := by decide +kernel
theorem dX11_taken_36 : decode cX11_taken 36 = .ok (.getfield 202, 3) := by decide +kernel
theorem dX11_taken_39 : decode cX11_taken 39 = .ok (.iload_n 1, 1) := by decide +kernel
theorem dX11_taken_40 : decode cX11_taken 40 = .ok (.iaload, 1) := by decide +kernel
theorem dX11_taken_41 : decode cX11_taken 41 = .ok (.iload_n 2, 1) := by decide +kernel
theorem dX11_taken_42 : decode cX11_taken 42 = .ok (.invokestatic 335, 3) := by decide +kernel
theorem dX11_taken_45 : decode cX11_taken 45 = .ok (.ifCond .eq 18, 3) := by decide +kernel
theorem dX11_taken_48 : decode cX11_taken 48 = .ok (.aload_n 0, 1) := by decide +kernel
theorem dX11_taken_49 : decode cX11_taken 49 = .ok (.getfield 12, 3) := by decide +kernel
theorem dX11_taken_52 : decode cX11_taken 52 = .ok (.getfield 189, 3) := by decide +kernel
theorem dX11_taken_55 : decode cX11_taken 55 = .ok (.getfield 338, 3) := by decide +kernel
theorem dX11_taken_58 : decode cX11_taken 58 = .ok (.iload_n 1, 1) := by decide +kernel
theorem dX11_taken_59 : decode cX11_taken 59 = .ok (.iaload, 1) := by decide +kernel
theorem dX11_taken_60 : decode cX11_taken 60 = .ok (.goto 5, 3) := by decide +kernel
theorem dX11_taken_63 : decode cX11_taken 63 = .ok (.bipush (-13), 2) := by decide +kernel
theorem dX11_taken_65 : decode cX11_taken 65 = .ok (.ireturn, 1) := by decide +kernel
theorem dX11_isWithin_0 : decode cX11_isWithin 0 = .ok (.iload_n 1, 1) := by decide +kernel
theorem dX11_isWithin_1 : decode cX11_isWithin 1 = .ok (.iload_n 0, 1) := by decide +kernel
theorem dX11_isWithin_2 : decode cX11_isWithin 2 = .ok (.if_icmp .gt 12, 3) := by decide +kernel
theorem dX11_isWithin_5 : decode cX11_isWithin 5 = .ok (.iload_n 0, 1) := by decide +kernel
theorem dX11_isWithin_6 : decode cX11_isWithin 6 = .ok (.iload_n 2, 1) := by decide +kernel
theorem dX11_isWithin_7 : decode cX11_isWithin 7 = .ok (.if_icmp .gt 7, 3) := by decide +kernel
theorem dX11_isWithin_10 : decode cX11_isWithin 10 = .ok (.iconst 1, 1) := by decide +kernel
theorem dX11_isWithin_11 : decode cX11_isWithin 11 = .ok (.goto 4, 3) := by decide +kernel
theorem dX11_isWithin_14 : decode cX11_isWithin 14 = .ok (.iconst 0, 1) := by decide +kernel
theorem dX11_isWithin_15 : decode cX11_isWithin 15 = .ok (.ireturn, 1) := by decide +kernel
theorem dX11_isSide_0 : decode cX11_isSide 0 = .ok (.iload_n 0, 1) := by decide +kernel
theorem dX11_isSide_1 : decode cX11_isSide 1 = .ok (.iconst 0, 1) := by decide +kernel
theorem dX11_isSide_2 : decode cX11_isSide 2 = .ok (.iconst 3, 1) := by decide +kernel
theorem dX11_isSide_3 : decode cX11_isSide 3 = .ok (.invokestatic 100, 3) := by decide +kernel
theorem dX11_isSide_6 : decode cX11_isSide 6 = .ok (.ireturn, 1) := by decide +kernel
theorem dX11_isPlace_0 : decode cX11_isPlace 0 = .ok (.iload_n 0, 1) := by decide +kernel
theorem dX11_isPlace_1 : decode cX11_isPlace 1 = .ok (.iconst 0, 1) := by decide +kernel
theorem dX11_isPlace_2 : decode cX11_isPlace 2 = .ok (.sipush 9999, 3) := by decide +kernel
theorem dX11_isPlace_5 : decode cX11_isPlace 5 = .ok (.invokestatic 100, 3) := by decide +kernel
theorem dX11_isPlace_8 : decode cX11_isPlace 8 = .ok (.ireturn, 1) := by decide +kernel
theorem dX11_isSpeed_0 : decode cX11_isSpeed 0 = .ok (.iload_n 0, 1) := by decide +kernel
theorem dX11_isSpeed_1 : decode cX11_isSpeed 1 = .ok (.bipush (-99), 2) := by decide +kernel
theorem dX11_isSpeed_3 : decode cX11_isSpeed 3 = .ok (.bipush 99, 2) := by decide +kernel
theorem dX11_isSpeed_5 : decode cX11_isSpeed 5 = .ok (.invokestatic 100, 3) := by decide +kernel
theorem dX11_isSpeed_8 : decode cX11_isSpeed 8 = .ok (.ireturn, 1) := by decide +kernel
theorem dX11_isPart_0 : decode cX11_isPart 0 = .ok (.iload_n 0, 1) := by decide +kernel
theorem dX11_isPart_1 : decode cX11_isPart 1 = .ok (.iconst 0, 1) := by decide +kernel
theorem dX11_isPart_2 : decode cX11_isPart 2 = .ok (.iconst 3, 1) := by decide +kernel
theorem dX11_isPart_3 : decode cX11_isPart 3 = .ok (.invokestatic 100, 3) := by decide +kernel
theorem dX11_isPart_6 : decode cX11_isPart 6 = .ok (.ireturn, 1) := by decide +kernel
theorem dX11_isTick_0 : decode cX11_isTick 0 = .ok (.iload_n 0, 1) := by decide +kernel
theorem dX11_isTick_1 : decode cX11_isTick 1 = .ok (.iconst 0, 1) := by decide +kernel
theorem dX11_isTick_2 : decode cX11_isTick 2 = .ok (.sipush 200, 3) := by decide +kernel
theorem dX11_isTick_5 : decode cX11_isTick 5 = .ok (.invokestatic 100, 3) := by decide +kernel
theorem dX11_isTick_8 : decode cX11_isTick 8 = .ok (.ireturn, 1) := by decide +kernel
theorem dX11_isWidth_0 : decode cX11_isWidth 0 = .ok (.iload_n 0, 1) := by decide +kernel
theorem dX11_isWidth_1 : decode cX11_isWidth 1 = .ok (.iconst 0, 1) := by decide +kernel
theorem dX11_isWidth_2 : decode cX11_isWidth 2 = .ok (.sipush 999, 3) := by decide +kernel
theorem dX11_isWidth_5 : decode cX11_isWidth 5 = .ok (.invokestatic 100, 3) := by decide +kernel
theorem dX11_isWidth_8 : decode cX11_isWidth 8 = .ok (.ireturn, 1) := by decide +kernel
theorem dX11_isSheet_0 : decode cX11_isSheet 0 = .ok (.iload_n 0, 1) := by decide +kernel
theorem dX11_isSheet_1 : decode cX11_isSheet 1 = .ok (.iconst 0, 1) := by decide +kernel
theorem dX11_isSheet_2 : decode cX11_isSheet 2 = .ok (.iconst 3, 1) := by decide +kernel
theorem dX11_isSheet_3 : decode cX11_isSheet 3 = .ok (.invokestatic 100, 3) := by decide +kernel
theorem dX11_isSheet_6 : decode cX11_isSheet 6 = .ok (.ireturn, 1) := by decide +kernel
theorem dX11_footIfNone_0 : decode cX11_footIfNone 0 = .ok (.iload_n 0, 1) := by decide +kernel
theorem dX11_footIfNone_1 : decode cX11_footIfNone 1 = .ok (.iconst (-1), 1) := by decide +kernel
theorem dX11_footIfNone_2 : decode cX11_footIfNone 2 = .ok (.if_icmp .ne 7, 3) := by decide +kernel
theorem dX11_footIfNone_5 : decode cX11_footIfNone 5 = .ok (.iconst 3, 1) := by decide +kernel
theorem dX11_footIfNone_6 : decode cX11_footIfNone 6 = .ok (.goto 4, 3) := by decide +kernel
theorem dX11_footIfNone_9 : decode cX11_footIfNone 9 = .ok (.iload_n 0, 1) := by decide +kernel
theorem dX11_footIfNone_10 : decode cX11_footIfNone 10 = .ok (.ireturn, 1) := by decide +kernel
theorem dX11_isUnder_0 : decode cX11_isUnder 0 = .ok (.iload_n 0, 1) := by decide +kernel
theorem dX11_isUnder_1 : decode cX11_isUnder 1 = .ok (.istore_n 2, 1) := by decide +kernel
theorem dX11_isUnder_2 : decode cX11_isUnder 2 = .ok (.iconst 0, 1) := by decide +kernel
theorem dX11_isUnder_3 : decode cX11_isUnder 3 = .ok (.istore_n 3, 1) := by decide +kernel
theorem dX11_isUnder_4 : decode cX11_isUnder 4 = .ok (.iload_n 3, 1) := by decide +kernel
theorem dX11_isUnder_5 : decode cX11_isUnder 5 = .ok (.bipush 6, 2) := by decide +kernel
theorem dX11_isUnder_7 : decode cX11_isUnder 7 = .ok (.if_icmp .ge 31, 3) := by decide +kernel
theorem dX11_isUnder_10 : decode cX11_isUnder 10 = .ok (.iload_n 2, 1) := by decide +kernel
theorem dX11_isUnder_11 : decode cX11_isUnder 11 = .ok (.iconst 0, 1) := by decide +kernel
theorem dX11_isUnder_12 : decode cX11_isUnder 12 = .ok (.iconst 5, 1) := by decide +kernel
theorem dX11_isUnder_13 : decode cX11_isUnder 13 = .ok (.invokestatic 100, 3) := by decide +kernel
theorem dX11_isUnder_16 : decode cX11_isUnder 16 = .ok (.ifCond .eq 22, 3) := by decide +kernel
theorem dX11_isUnder_19 : decode cX11_isUnder 19 = .ok (.iload_n 2, 1) := by decide +kernel
theorem dX11_isUnder_20 : decode cX11_isUnder 20 = .ok (.iload_n 1, 1) := by decide +kernel
theorem dX11_isUnder_21 : decode cX11_isUnder 21 = .ok (.if_icmp .ne 5, 3) := by decide +kernel
theorem dX11_isUnder_24 : decode cX11_isUnder 24 = .ok (.iconst 1, 1) := by decide +kernel
theorem dX11_isUnder_25 : decode cX11_isUnder 25 = .ok (.ireturn, 1) := by decide +kernel
theorem dX11_isUnder_26 : decode cX11_isUnder 26 = .ok (.getstatic 341, 3) := by decide +kernel
theorem dX11_isUnder_29 : decode cX11_isUnder 29 = .ok (.iload_n 2, 1) := by decide +kernel
theorem dX11_isUnder_30 : decode cX11_isUnder 30 = .ok (.iaload, 1) := by decide +kernel
theorem dX11_isUnder_31 : decode cX11_isUnder 31 = .ok (.istore_n 2, 1) := by decide +kernel
theorem dX11_isUnder_32 : decode cX11_isUnder 32 = .ok (.iinc 3 1, 3) := by decide +kernel
theorem dX11_isUnder_35 : decode cX11_isUnder 35 = .ok (.goto (-31), 3) := by decide +kernel
theorem dX11_isUnder_38 : decode cX11_isUnder 38 = .ok (.iconst 0, 1) := by decide +kernel
theorem dX11_isUnder_39 : decode cX11_isUnder 39 = .ok (.ireturn, 1) := by decide +kernel
theorem dJ6_bitCount_0f7a4_0 : decode cJ6_bitCount_0f7a4 0 = .ok (.iload_n 0, 1) := by decide +kernel
theorem dJ6_bitCount_0f7a4_1 : decode cJ6_bitCount_0f7a4 1 = .ok (.iload_n 0, 1) := by decide +kernel
theorem dJ6_bitCount_0f7a4_2 : decode cJ6_bitCount_0f7a4 2 = .ok (.iconst 1, 1) := by decide +kernel
theorem dJ6_bitCount_0f7a4_3 : decode cJ6_bitCount_0f7a4 3 = .ok (.iushr, 1) := by decide +kernel
theorem dJ6_bitCount_0f7a4_4 : decode cJ6_bitCount_0f7a4 4 = .ok (.ldc_w 265, 3) := by decide +kernel
theorem dJ6_bitCount_0f7a4_7 : decode cJ6_bitCount_0f7a4 7 = .ok (.iand, 1) := by decide +kernel
theorem dJ6_bitCount_0f7a4_8 : decode cJ6_bitCount_0f7a4 8 = .ok (.isub, 1) := by decide +kernel
theorem dJ6_bitCount_0f7a4_9 : decode cJ6_bitCount_0f7a4 9 = .ok (.istore_n 0, 1) := by decide +kernel
theorem dJ6_bitCount_0f7a4_10 : decode cJ6_bitCount_0f7a4 10 = .ok (.iload_n 0, 1) := by decide +kernel
theorem dJ6_bitCount_0f7a4_11 : decode cJ6_bitCount_0f7a4 11 = .ok (.ldc_w 266, 3) := by decide +kernel
theorem dJ6_bitCount_0f7a4_14 : decode cJ6_bitCount_0f7a4 14 = .ok (.iand, 1) := by decide +kernel
theorem dJ6_bitCount_0f7a4_15 : decode cJ6_bitCount_0f7a4 15 = .ok (.iload_n 0, 1) := by decide +kernel
theorem dJ6_bitCount_0f7a4_16 : decode cJ6_bitCount_0f7a4 16 = .ok (.iconst 2, 1) := by decide +kernel
theorem dJ6_bitCount_0f7a4_17 : decode cJ6_bitCount_0f7a4 17 = .ok (.iushr, 1) := by decide +kernel
theorem dJ6_bitCount_0f7a4_18 : decode cJ6_bitCount_0f7a4 18 = .ok (.ldc_w 266, 3) := by decide +kernel
theorem dJ6_bitCount_0f7a4_21 : decode cJ6_bitCount_0f7a4 21 = .ok (.iand, 1) := by decide +kernel
theorem dJ6_bitCount_0f7a4_22 : decode cJ6_bitCount_0f7a4 22 = .ok (.iadd, 1) := by decide +kernel
theorem dJ6_bitCount_0f7a4_23 : decode cJ6_bitCount_0f7a4 23 = .ok (.istore_n 0, 1) := by decide +kernel
theorem dJ6_bitCount_0f7a4_24 : decode cJ6_bitCount_0f7a4 24 = .ok (.iload_n 0, 1) := by decide +kernel
theorem dJ6_bitCount_0f7a4_25 : decode cJ6_bitCount_0f7a4 25 = .ok (.iload_n 0, 1) := by decide +kernel
theorem dJ6_bitCount_0f7a4_26 : decode cJ6_bitCount_0f7a4 26 = .ok (.iconst 4, 1) := by decide +kernel
theorem dJ6_bitCount_0f7a4_27 : decode cJ6_bitCount_0f7a4 27 = .ok (.iushr, 1) := by decide +kernel
theorem dJ6_bitCount_0f7a4_28 : decode cJ6_bitCount_0f7a4 28 = .ok (.iadd, 1) := by decide +kernel
theorem dJ6_bitCount_0f7a4_29 : decode cJ6_bitCount_0f7a4 29 = .ok (.ldc_w 267, 3) := by decide +kernel
theorem dJ6_bitCount_0f7a4_32 : decode cJ6_bitCount_0f7a4 32 = .ok (.iand, 1) := by decide +kernel
theorem dJ6_bitCount_0f7a4_33 : decode cJ6_bitCount_0f7a4 33 = .ok (.istore_n 0, 1) := by decide +kernel
theorem dJ6_bitCount_0f7a4_34 : decode cJ6_bitCount_0f7a4 34 = .ok (.iload_n 0, 1) := by decide +kernel
theorem dJ6_bitCount_0f7a4_35 : decode cJ6_bitCount_0f7a4 35 = .ok (.iload_n 0, 1) := by decide +kernel
theorem dJ6_bitCount_0f7a4_36 : decode cJ6_bitCount_0f7a4 36 = .ok (.bipush 8, 2) := by decide +kernel
theorem dJ6_bitCount_0f7a4_38 : decode cJ6_bitCount_0f7a4 38 = .ok (.iushr, 1) := by decide +kernel
theorem dJ6_bitCount_0f7a4_39 : decode cJ6_bitCount_0f7a4 39 = .ok (.iadd, 1) := by decide +kernel
theorem dJ6_bitCount_0f7a4_40 : decode cJ6_bitCount_0f7a4 40 = .ok (.istore_n 0, 1) := by decide +kernel
theorem dJ6_bitCount_0f7a4_41 : decode cJ6_bitCount_0f7a4 41 = .ok (.iload_n 0, 1) := by decide +kernel
theorem dJ6_bitCount_0f7a4_42 : decode cJ6_bitCount_0f7a4 42 = .ok (.iload_n 0, 1) := by decide +kernel
theorem dJ6_bitCount_0f7a4_43 : decode cJ6_bitCount_0f7a4 43 = .ok (.bipush 16, 2) := by decide +kernel
theorem dJ6_bitCount_0f7a4_45 : decode cJ6_bitCount_0f7a4 45 = .ok (.iushr, 1) := by decide +kernel
theorem dJ6_bitCount_0f7a4_46 : decode cJ6_bitCount_0f7a4 46 = .ok (.iadd, 1) := by decide +kernel
theorem dJ6_bitCount_0f7a4_47 : decode cJ6_bitCount_0f7a4 47 = .ok (.istore_n 0, 1) := by decide +kernel
theorem dJ6_bitCount_0f7a4_48 : decode cJ6_bitCount_0f7a4 48 = .ok (.iload_n 0, 1) := by decide +kernel
theorem dJ6_bitCount_0f7a4_49 : decode cJ6_bitCount_0f7a4 49 = .ok (.bipush 63, 2) := by decide +kernel
theorem dJ6_bitCount_0f7a4_51 : decode cJ6_bitCount_0f7a4 51 = .ok (.iand, 1) := by decide +kernel
theorem dJ6_bitCount_0f7a4_52 : decode cJ6_bitCount_0f7a4 52 = .ok (.ireturn, 1) := by decide +kernel
theorem dJ9_max_7cf53_0 : decode cJ9_max_7cf53 0 = .ok (.iload_n 0, 1) := by decide +kernel
theorem dJ9_max_7cf53_1 : decode cJ9_max_7cf53 1 = .ok (.iload_n 1, 1) := by decide +kernel
theorem dJ9_max_7cf53_2 : decode cJ9_max_7cf53 2 = .ok (.if_icmp .lt 7, 3) := by decide +kernel
theorem dJ9_max_7cf53_5 : decode cJ9_max_7cf53 5 = .ok (.iload_n 0, 1) := by decide +kernel
theorem dJ9_max_7cf53_6 : decode cJ9_max_7cf53 6 = .ok (.goto 4, 3) := by decide +kernel
theorem dJ9_max_7cf53_9 : decode cJ9_max_7cf53 9 = .ok (.iload_n 1, 1) := by decide +kernel
theorem dJ9_max_7cf53_10 : decode cJ9_max_7cf53 10 = .ok (.ireturn, 1) := by decide +kernel
theorem dJ9_min_7cf53_0 : decode cJ9_min_7cf53 0 = .ok (.iload_n 0, 1) := by decide +kernel
theorem dJ9_min_7cf53_1 : decode cJ9_min_7cf53 1 = .ok (.iload_n 1, 1) := by decide +kernel
theorem dJ9_min_7cf53_2 : decode cJ9_min_7cf53 2 = .ok (.if_icmp .gt 7, 3) := by decide +kernel
theorem dJ9_min_7cf53_5 : decode cJ9_min_7cf53 5 = .ok (.iload_n 0, 1) := by decide +kernel
theorem dJ9_min_7cf53_6 : decode cJ9_min_7cf53 6 = .ok (.goto 4, 3) := by decide +kernel
theorem dJ9_min_7cf53_9 : decode cJ9_min_7cf53 9 = .ok (.iload_n 1, 1) := by decide +kernel
theorem dJ9_min_7cf53_10 : decode cJ9_min_7cf53 10 = .ok (.ireturn, 1) := by decide +kernel
theorem dJ0_length_8abf5_0 : decode cJ0_length_8abf5 0 = .ok (.aload_n 0, 1) := by decide +kernel
theorem dJ0_length_8abf5_1 : decode cJ0_length_8abf5 1 = .ok (.getfield 9, 3) := by decide +kernel
theorem dJ0_length_8abf5_4 : decode cJ0_length_8abf5 4 = .ok (.arraylength, 1) := by decide +kernel
theorem dJ0_length_8abf5_5 : decode cJ0_length_8abf5 5 = .ok (.aload_n 0, 1) := by decide +kernel
theorem dJ0_length_8abf5_6 : decode cJ0_length_8abf5 6 = .ok (.invokevirtual 335, 3) := by decide +kernel
theorem dJ0_length_8abf5_9 : decode cJ0_length_8abf5 9 = .ok (.ishr, 1) := by decide +kernel
theorem dJ0_length_8abf5_10 : decode cJ0_length_8abf5 10 = .ok (.ireturn, 1) := by decide +kernel
theorem dJ0_charAt_5068e_0 : decode cJ0_charAt_5068e 0 = .ok (.aload_n 0, 1) := by decide +kernel
theorem dJ0_charAt_5068e_1 : decode cJ0_charAt_5068e 1 = .ok (.invokevirtual 492, 3) := by decide +kernel
theorem dJ0_charAt_5068e_4 : decode cJ0_charAt_5068e 4 = .ok (.ifCond .eq 12, 3) := by decide +kernel
theorem dJ0_charAt_5068e_7 : decode cJ0_charAt_5068e 7 = .ok (.aload_n 0, 1) := by decide +kernel
theorem dJ0_charAt_5068e_8 : decode cJ0_charAt_5068e 8 = .ok (.getfield 9, 3) := by decide +kernel
theorem dJ0_charAt_5068e_11 : decode cJ0_charAt_5068e 11 = .ok (.iload_n 1, 1) := by decide +kernel
theorem dJ0_charAt_5068e_12 : decode cJ0_charAt_5068e 12 = .ok (.invokestatic 495, 3) := by decide +kernel
theorem dJ0_charAt_5068e_15 : decode cJ0_charAt_5068e 15 = .ok (.ireturn, 1) := by decide +kernel
theorem dJ0_charAt_5068e_16 : decode cJ0_charAt_5068e 16 = .ok (.aload_n 0, 1) := by decide +kernel
theorem dJ0_charAt_5068e_17 : decode cJ0_charAt_5068e 17 = .ok (.getfield 9, 3) := by decide +kernel
theorem dJ0_charAt_5068e_20 : decode cJ0_charAt_5068e 20 = .ok (.iload_n 1, 1) := by decide +kernel
theorem dJ0_charAt_5068e_21 : decode cJ0_charAt_5068e 21 = .ok (.invokestatic 498, 3) := by decide +kernel
theorem dJ0_charAt_5068e_24 : decode cJ0_charAt_5068e 24 = .ok (.ireturn, 1) := by decide +kernel
theorem dJ0_coder_7d493_0 : decode cJ0_coder_7d493 0 = .ok (.getstatic 38, 3) := by decide +kernel
theorem dJ0_coder_7d493_3 : decode cJ0_coder_7d493 3 = .ok (.ifCond .eq 10, 3) := by decide +kernel
theorem dJ0_coder_7d493_6 : decode cJ0_coder_7d493 6 = .ok (.aload_n 0, 1) := by decide +kernel
theorem dJ0_coder_7d493_7 : decode cJ0_coder_7d493 7 = .ok (.getfield 15, 3) := by decide +kernel
theorem dJ0_coder_7d493_10 : decode cJ0_coder_7d493 10 = .ok (.goto 4, 3) := by decide +kernel
theorem dJ0_coder_7d493_13 : decode cJ0_coder_7d493 13 = .ok (.iconst 1, 1) := by decide +kernel
theorem dJ0_coder_7d493_14 : decode cJ0_coder_7d493 14 = .ok (.ireturn, 1) := by decide +kernel
theorem dJ0_isLatin1_aae02_0 : decode cJ0_isLatin1_aae02 0 = .ok (.getstatic 38, 3) := by decide +kernel
theorem dJ0_isLatin1_aae02_3 : decode cJ0_isLatin1_aae02 3 = .ok (.ifCond .eq 14, 3) := by decide +kernel
theorem dJ0_isLatin1_aae02_6 : decode cJ0_isLatin1_aae02 6 = .ok (.aload_n 0, 1) := by decide +kernel
theorem dJ0_isLatin1_aae02_7 : decode cJ0_isLatin1_aae02 7 = .ok (.getfield 15, 3) := by decide +kernel
theorem dJ0_isLatin1_aae02_10 : decode cJ0_isLatin1_aae02 10 = .ok (.ifCond .ne 7, 3) := by decide +kernel
theorem dJ0_isLatin1_aae02_13 : decode cJ0_isLatin1_aae02 13 = .ok (.iconst 1, 1) := by decide +kernel
theorem dJ0_isLatin1_aae02_14 : decode cJ0_isLatin1_aae02 14 = .ok (.goto 4, 3) := by decide +kernel
theorem dJ0_isLatin1_aae02_17 : decode cJ0_isLatin1_aae02 17 = .ok (.iconst 0, 1) := by decide +kernel
theorem dJ0_isLatin1_aae02_18 : decode cJ0_isLatin1_aae02 18 = .ok (.ireturn, 1) := by decide +kernel
theorem dJ0_checkIndex_df160_0 : decode cJ0_checkIndex_df160 0 = .ok (.iload_n 0, 1) := by decide +kernel
theorem dJ0_checkIndex_df160_1 : decode cJ0_checkIndex_df160 1 = .ok (.iload_n 1, 1) := by decide +kernel
theorem dJ0_checkIndex_df160_2 : decode cJ0_checkIndex_df160 2 = .ok (.getstatic 1053, 3) := by decide +kernel
theorem dJ0_checkIndex_df160_5 : decode cJ0_checkIndex_df160 5 = .ok (.invokestatic 1059, 3) := by decide +kernel
theorem dJ0_checkIndex_df160_8 : decode cJ0_checkIndex_df160 8 = .ok (.pop, 1) := by decide +kernel
theorem dJ0_checkIndex_df160_9 : decode cJ0_checkIndex_df160 9 = .ok (.return_, 1) := by decide +kernel
theorem dJ1_charAt_3b067_0 : decode cJ1_charAt_3b067 0 = .ok (.iload_n 1, 1) := by decide +kernel
theorem dJ1_charAt_3b067_1 : decode cJ1_charAt_3b067 1 = .ok (.aload_n 0, 1) := by decide +kernel
theorem dJ1_charAt_3b067_2 : decode cJ1_charAt_3b067 2 = .ok (.arraylength, 1) := by decide +kernel
theorem dJ1_charAt_3b067_3 : decode cJ1_charAt_3b067 3 = .ok (.invokestatic 9, 3) := by decide +kernel
theorem dJ1_charAt_3b067_6 : decode cJ1_charAt_3b067 6 = .ok (.aload_n 0, 1) := by decide +kernel
theorem dJ1_charAt_3b067_7 : decode cJ1_charAt_3b067 7 = .ok (.iload_n 1, 1) := by decide +kernel
theorem dJ1_charAt_3b067_8 : decode cJ1_charAt_3b067 8 = .ok (.baload, 1) := by decide +kernel
theorem dJ1_charAt_3b067_9 : decode cJ1_charAt_3b067 9 = .ok (.sipush 255, 3) := by decide +kernel
theorem dJ1_charAt_3b067_12 : decode cJ1_charAt_3b067 12 = .ok (.iand, 1) := by decide +kernel
theorem dJ1_charAt_3b067_13 : decode cJ1_charAt_3b067 13 = .ok (.i2c, 1) := by decide +kernel
theorem dJ1_charAt_3b067_14 : decode cJ1_charAt_3b067 14 = .ok (.ireturn, 1) := by decide +kernel
theorem dJ2_getChar_3b067_0 : decode cJ2_getChar_3b067 0 = .ok (.getstatic 44, 3) := by decide +kernel
theorem dJ2_getChar_3b067_3 : decode cJ2_getChar_3b067 3 = .ok (.ifCond .ne 25, 3) := by decide +kernel
theorem dJ2_getChar_3b067_6 : decode cJ2_getChar_3b067 6 = .ok (.iload_n 1, 1) := by decide +kernel
theorem dJ2_getChar_3b067_7 : decode cJ2_getChar_3b067 7 = .ok (.ifCond .lt 11, 3) := by decide +kernel
theorem dJ2_getChar_3b067_10 : decode cJ2_getChar_3b067 10 = .ok (.iload_n 1, 1) := by decide +kernel
theorem dJ2_getChar_3b067_11 : decode cJ2_getChar_3b067 11 = .ok (.aload_n 0, 1) := by decide +kernel
theorem dJ2_getChar_3b067_12 : decode cJ2_getChar_3b067 12 = .ok (.invokestatic 48, 3) := by decide +kernel
theorem dJ2_getChar_3b067_15 : decode cJ2_getChar_3b067 15 = .ok (.if_icmp .lt 13, 3) := by decide +kernel
theorem dJ2_getChar_3b067_18 : decode cJ2_getChar_3b067 18 = .ok (.new 52, 3) := by decide +kernel
theorem dJ2_getChar_3b067_21 : decode cJ2_getChar_3b067 21 = .ok (.dup, 1) := by decide +kernel
theorem dJ2_getChar_3b067_22 : decode cJ2_getChar_3b067 22 = .ok (.ldc 54, 2) := by decide +kernel
theorem dJ2_getChar_3b067_24 : decode cJ2_getChar_3b067 24 = .ok (.invokespecial 56, 3) := by decide +kernel
theorem dJ2_getChar_3b067_27 : decode cJ2_getChar_3b067 27 = .ok (.athrow, 1) := by decide +kernel
theorem dJ2_getChar_3b067_28 : decode cJ2_getChar_3b067 28 = .ok (.iload_n 1, 1) := by decide +kernel
theorem dJ2_getChar_3b067_29 : decode cJ2_getChar_3b067 29 = .ok (.iconst 1, 1) := by decide +kernel
theorem dJ2_getChar_3b067_30 : decode cJ2_getChar_3b067 30 = .ok (.ishl, 1) := by decide +kernel
theorem dJ2_getChar_3b067_31 : decode cJ2_getChar_3b067 31 = .ok (.istore_n 1, 1) := by decide +kernel
theorem dJ2_getChar_3b067_32 : decode cJ2_getChar_3b067 32 = .ok (.aload_n 0, 1) := by decide +kernel
theorem dJ2_getChar_3b067_33 : decode cJ2_getChar_3b067 33 = .ok (.iload_n 1, 1) := by decide +kernel
theorem dJ2_getChar_3b067_34 : decode cJ2_getChar_3b067 34 = .ok (.iinc 1 1, 3) := by decide +kernel
theorem dJ2_getChar_3b067_37 : decode cJ2_getChar_3b067 37 = .ok (.baload, 1) := by decide +kernel
theorem dJ2_getChar_3b067_38 : decode cJ2_getChar_3b067 38 = .ok (.sipush 255, 3) := by decide +kernel
theorem dJ2_getChar_3b067_41 : decode cJ2_getChar_3b067 41 = .ok (.iand, 1) := by decide +kernel
theorem dJ2_getChar_3b067_42 : decode cJ2_getChar_3b067 42 = .ok (.getstatic 59, 3) := by decide +kernel
theorem dJ2_getChar_3b067_45 : decode cJ2_getChar_3b067 45 = .ok (.ishl, 1) := by decide +kernel
theorem dJ2_getChar_3b067_46 : decode cJ2_getChar_3b067 46 = .ok (.aload_n 0, 1) := by decide +kernel
theorem dJ2_getChar_3b067_47 : decode cJ2_getChar_3b067 47 = .ok (.iload_n 1, 1) := by decide +kernel
theorem dJ2_getChar_3b067_48 : decode cJ2_getChar_3b067 48 = .ok (.baload, 1) := by decide +kernel
theorem dJ2_getChar_3b067_49 : decode cJ2_getChar_3b067 49 = .ok (.sipush 255, 3) := by decide +kernel
theorem dJ2_getChar_3b067_52 : decode cJ2_getChar_3b067 52 = .ok (.iand, 1) := by decide +kernel
theorem dJ2_getChar_3b067_53 : decode cJ2_getChar_3b067 53 = .ok (.getstatic 63, 3) := by decide +kernel
theorem dJ2_getChar_3b067_56 : decode cJ2_getChar_3b067 56 = .ok (.ishl, 1) := by decide +kernel
theorem dJ2_getChar_3b067_57 : decode cJ2_getChar_3b067 57 = .ok (.ior, 1) := by decide +kernel
theorem dJ2_getChar_3b067_58 : decode cJ2_getChar_3b067 58 = .ok (.i2c, 1) := by decide +kernel
theorem dJ2_getChar_3b067_59 : decode cJ2_getChar_3b067 59 = .ok (.ireturn, 1) := by decide +kernel
theorem dJ2_length_9d52b_0 : decode cJ2_length_9d52b 0 = .ok (.aload_n 0, 1) := by decide +kernel
theorem dJ2_length_9d52b_1 : decode cJ2_length_9d52b 1 = .ok (.arraylength, 1) := by decide +kernel
theorem dJ2_length_9d52b_2 : decode cJ2_length_9d52b 2 = .ok (.iconst 1, 1) := by decide +kernel
theorem dJ2_length_9d52b_3 : decode cJ2_length_9d52b 3 = .ok (.ishr, 1) := by decide +kernel
theorem dJ2_length_9d52b_4 : decode cJ2_length_9d52b 4 = .ok (.ireturn, 1) := by decide +kernel
theorem dJ2_charAt_3b067_0 : decode cJ2_charAt_3b067 0 = .ok (.iload_n 1, 1) := by decide +kernel
theorem dJ2_charAt_3b067_1 : decode cJ2_charAt_3b067 1 = .ok (.aload_n 0, 1) := by decide +kernel
theorem dJ2_charAt_3b067_2 : decode cJ2_charAt_3b067 2 = .ok (.invokestatic 67, 3) := by decide +kernel
theorem dJ2_charAt_3b067_5 : decode cJ2_charAt_3b067 5 = .ok (.aload_n 0, 1) := by decide +kernel
theorem dJ2_charAt_3b067_6 : decode cJ2_charAt_3b067 6 = .ok (.iload_n 1, 1) := by decide +kernel
theorem dJ2_charAt_3b067_7 : decode cJ2_charAt_3b067 7 = .ok (.invokestatic 71, 3) := by decide +kernel
theorem dJ2_charAt_3b067_10 : decode cJ2_charAt_3b067 10 = .ok (.ireturn, 1) := by decide +kernel
theorem dJ2_checkIndex_2214a_0 : decode cJ2_checkIndex_2214a 0 = .ok (.iload_n 0, 1) := by decide +kernel
theorem dJ2_checkIndex_2214a_1 : decode cJ2_checkIndex_2214a 1 = .ok (.aload_n 1, 1) := by decide +kernel
theorem dJ2_checkIndex_2214a_2 : decode cJ2_checkIndex_2214a 2 = .ok (.invokestatic 48, 3) := by decide +kernel
theorem dJ2_checkIndex_2214a_5 : decode cJ2_checkIndex_2214a 5 = .ok (.invokestatic 414, 3) := by decide +kernel
theorem dJ2_checkIndex_2214a_8 : decode cJ2_checkIndex_2214a 8 = .ok (.return_, 1) := by decide +kernel
theorem dJ3_checkIndex_8e157_0 : decode cJ3_checkIndex_8e157 0 = .ok (.iload_n 0, 1) := by decide +kernel
theorem dJ3_checkIndex_8e157_1 : decode cJ3_checkIndex_8e157 1 = .ok (.ifCond .lt 8, 3) := by decide +kernel
theorem dJ3_checkIndex_8e157_4 : decode cJ3_checkIndex_8e157 4 = .ok (.iload_n 0, 1) := by decide +kernel
theorem dJ3_checkIndex_8e157_5 : decode cJ3_checkIndex_8e157 5 = .ok (.iload_n 1, 1) := by decide +kernel
theorem dJ3_checkIndex_8e157_6 : decode cJ3_checkIndex_8e157 6 = .ok (.if_icmp .lt 10, 3) := by decide +kernel
theorem dJ3_checkIndex_8e157_9 : decode cJ3_checkIndex_8e157 9 = .ok (.aload_n 2, 1) := by decide +kernel
theorem dJ3_checkIndex_8e157_10 : decode cJ3_checkIndex_8e157 10 = .ok (.iload_n 0, 1) := by decide +kernel
theorem dJ3_checkIndex_8e157_11 : decode cJ3_checkIndex_8e157 11 = .ok (.iload_n 1, 1) := by decide +kernel
theorem dJ3_checkIndex_8e157_12 : decode cJ3_checkIndex_8e157 12 = .ok (.invokestatic 95, 3) := by decide +kernel
theorem dJ3_checkIndex_8e157_15 : decode cJ3_checkIndex_8e157 15 = .ok (.athrow, 1) := by decide +kernel
theorem dJ3_checkIndex_8e157_16 : decode cJ3_checkIndex_8e157 16 = .ok (.iload_n 0, 1) := by decide +kernel
theorem dJ3_checkIndex_8e157_17 : decode cJ3_checkIndex_8e157 17 = .ok (.ireturn, 1) := by decide +kernel
