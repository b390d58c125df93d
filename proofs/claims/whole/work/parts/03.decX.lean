theorem dX0_init_0 : decode cX0_init 0 = .ok (.aload_n 0, 1) := by decide +kernel
theorem dX0_init_1 : decode cX0_init 1 = .ok (.invokespecial 1, 3) := by decide +kernel
theorem dX0_init_4 : decode cX0_init 4 = .ok (.aload_n 0, 1) := by decide +kernel
theorem dX0_init_5 : decode cX0_init 5 = .ok (.bipush 9, 2) := by decide +kernel
theorem dX0_init_7 : decode cX0_init 7 = .ok (.putfield 7, 3) := by decide +kernel
theorem dX0_init_10 : decode cX0_init 10 = .ok (.aload_n 0, 1) := by decide +kernel
theorem dX0_init_11 : decode cX0_init 11 = .ok (.sipush 511, 3) := by decide +kernel
theorem dX0_init_14 : decode cX0_init 14 = .ok (.putfield 13, 3) := by decide +kernel
theorem dX0_init_17 : decode cX0_init 17 = .ok (.return_, 1) := by decide +kernel
theorem dX0_setUp_0 : decode cX0_setUp 0 = .ok (.aload_n 0, 1) := by decide +kernel
theorem dX0_setUp_1 : decode cX0_setUp 1 = .ok (.iload_n 1, 1) := by decide +kernel
theorem dX0_setUp_2 : decode cX0_setUp 2 = .ok (.putfield 7, 3) := by decide +kernel
theorem dX0_setUp_5 : decode cX0_setUp 5 = .ok (.aload_n 0, 1) := by decide +kernel
theorem dX0_setUp_6 : decode cX0_setUp 6 = .ok (.iload_n 2, 1) := by decide +kernel
theorem dX0_setUp_7 : decode cX0_setUp 7 = .ok (.putfield 16, 3) := by decide +kernel
theorem dX0_setUp_10 : decode cX0_setUp 10 = .ok (.aload_n 0, 1) := by decide +kernel
theorem dX0_setUp_11 : decode cX0_setUp 11 = .ok (.iload_n 3, 1) := by decide +kernel
theorem dX0_setUp_12 : decode cX0_setUp 12 = .ok (.putfield 19, 3) := by decide +kernel
theorem dX0_setUp_15 : decode cX0_setUp 15 = .ok (.aload_n 0, 1) := by decide +kernel
theorem dX0_setUp_16 : decode cX0_setUp 16 = .ok (.iconst 1, 1) := by decide +kernel
theorem dX0_setUp_17 : decode cX0_setUp 17 = .ok (.iload_n 1, 1) := by decide +kernel
theorem dX0_setUp_18 : decode cX0_setUp 18 = .ok (.ishl, 1) := by decide +kernel
theorem dX0_setUp_19 : decode cX0_setUp 19 = .ok (.iconst 1, 1) := by decide +kernel
theorem dX0_setUp_20 : decode cX0_setUp 20 = .ok (.isub, 1) := by decide +kernel
theorem dX0_setUp_21 : decode cX0_setUp 21 = .ok (.putfield 13, 3) := by decide +kernel
theorem dX0_setUp_24 : decode cX0_setUp 24 = .ok (.return_, 1) := by decide +kernel
theorem dX0_become_0 : decode cX0_become 0 = .ok (.aload_n 0, 1) := by decide +kernel
theorem dX0_become_1 : decode cX0_become 1 = .ok (.aload_n 1, 1) := by decide +kernel
theorem dX0_become_2 : decode cX0_become 2 = .ok (.getfield 7, 3) := by decide +kernel
theorem dX0_become_5 : decode cX0_become 5 = .ok (.aload_n 1, 1) := by decide +kernel
theorem dX0_become_6 : decode cX0_become 6 = .ok (.getfield 16, 3) := by decide +kernel
theorem dX0_become_9 : decode cX0_become 9 = .ok (.aload_n 1, 1) := by decide +kernel
theorem dX0_become_10 : decode cX0_become 10 = .ok (.getfield 19, 3) := by decide +kernel
theorem dX0_become_13 : decode cX0_become 13 = .ok (.invokevirtual 22, 3) := by decide +kernel
theorem dX0_become_16 : decode cX0_become 16 = .ok (.return_, 1) := by decide +kernel
theorem dX0_withAhead_0 : decode cX0_withAhead 0 = .ok (.aload_n 0, 1) := by decide +kernel
theorem dX0_withAhead_1 : decode cX0_withAhead 1 = .ok (.getfield 16, 3) := by decide +kernel
theorem dX0_withAhead_4 : decode cX0_withAhead 4 = .ok (.iconst 1, 1) := by decide +kernel
theorem dX0_withAhead_5 : decode cX0_withAhead 5 = .ok (.if_icmp .ne 14, 3) := by decide +kernel
theorem dX0_withAhead_8 : decode cX0_withAhead 8 = .ok (.iload_n 1, 1) := by decide +kernel
theorem dX0_withAhead_9 : decode cX0_withAhead 9 = .ok (.aload_n 0, 1) := by decide +kernel
theorem dX0_withAhead_10 : decode cX0_withAhead 10 = .ok (.getfield 7, 3) := by decide +kernel
theorem dX0_withAhead_13 : decode cX0_withAhead 13 = .ok (.iconst 1, 1) := by decide +kernel
theorem dX0_withAhead_14 : decode cX0_withAhead 14 = .ok (.isub, 1) := by decide +kernel
theorem dX0_withAhead_15 : decode cX0_withAhead 15 = .ok (.ishr, 1) := by decide +kernel
theorem dX0_withAhead_16 : decode cX0_withAhead 16 = .ok (.goto 4, 3) := by decide +kernel
theorem dX0_withAhead_19 : decode cX0_withAhead 19 = .ok (.iload_n 2, 1) := by decide +kernel
theorem dX0_withAhead_20 : decode cX0_withAhead 20 = .ok (.istore_n 3, 1) := by decide +kernel
theorem dX0_withAhead_21 : decode cX0_withAhead 21 = .ok (.iload_n 1, 1) := by decide +kernel
theorem dX0_withAhead_22 : decode cX0_withAhead 22 = .ok (.iconst 1, 1) := by decide +kernel
theorem dX0_withAhead_23 : decode cX0_withAhead 23 = .ok (.ishl, 1) := by decide +kernel
theorem dX0_withAhead_24 : decode cX0_withAhead 24 = .ok (.iload_n 3, 1) := by decide +kernel
theorem dX0_withAhead_25 : decode cX0_withAhead 25 = .ok (.ior, 1) := by decide +kernel
theorem dX0_withAhead_26 : decode cX0_withAhead 26 = .ok (.aload_n 0, 1) := by decide +kernel
theorem dX0_withAhead_27 : decode cX0_withAhead 27 = .ok (.getfield 13, 3) := by decide +kernel
theorem dX0_withAhead_30 : decode cX0_withAhead 30 = .ok (.iand, 1) := by decide +kernel
theorem dX0_withAhead_31 : decode cX0_withAhead 31 = .ok (.ireturn, 1) := by decide +kernel
theorem dX0_withBehind_0 : decode cX0_withBehind 0 = .ok (.aload_n 0, 1) := by decide +kernel
theorem dX0_withBehind_1 : decode cX0_withBehind 1 = .ok (.getfield 16, 3) := by decide +kernel
theorem dX0_withBehind_4 : decode cX0_withBehind 4 = .ok (.iconst 1, 1) := by decide +kernel
theorem dX0_withBehind_5 : decode cX0_withBehind 5 = .ok (.if_icmp .ne 9, 3) := by decide +kernel
theorem dX0_withBehind_8 : decode cX0_withBehind 8 = .ok (.iload_n 1, 1) := by decide +kernel
theorem dX0_withBehind_9 : decode cX0_withBehind 9 = .ok (.iconst 1, 1) := by decide +kernel
theorem dX0_withBehind_10 : decode cX0_withBehind 10 = .ok (.iand, 1) := by decide +kernel
theorem dX0_withBehind_11 : decode cX0_withBehind 11 = .ok (.goto 4, 3) := by decide +kernel
theorem dX0_withBehind_14 : decode cX0_withBehind 14 = .ok (.iload_n 2, 1) := by decide +kernel
theorem dX0_withBehind_15 : decode cX0_withBehind 15 = .ok (.istore_n 3, 1) := by decide +kernel
theorem dX0_withBehind_16 : decode cX0_withBehind 16 = .ok (.iload_n 1, 1) := by decide +kernel
theorem dX0_withBehind_17 : decode cX0_withBehind 17 = .ok (.iconst 1, 1) := by decide +kernel
theorem dX0_withBehind_18 : decode cX0_withBehind 18 = .ok (.ishr, 1) := by decide +kernel
theorem dX0_withBehind_19 : decode cX0_withBehind 19 = .ok (.iload_n 3, 1) := by decide +kernel
theorem dX0_withBehind_20 : decode cX0_withBehind 20 = .ok (.aload_n 0, 1) := by decide +kernel
theorem dX0_withBehind_21 : decode cX0_withBehind 21 = .ok (.getfield 7, 3) := by decide +kernel
theorem dX0_withBehind_24 : decode cX0_withBehind 24 = .ok (.iconst 1, 1) := by decide +kernel
theorem dX0_withBehind_25 : decode cX0_withBehind 25 = .ok (.isub, 1) := by decide +kernel
theorem dX0_withBehind_26 : decode cX0_withBehind 26 = .ok (.ishl, 1) := by decide +kernel
theorem dX0_withBehind_27 : decode cX0_withBehind 27 = .ok (.ior, 1) := by decide +kernel
theorem dX0_withBehind_28 : decode cX0_withBehind 28 = .ok (.ireturn, 1) := by decide +kernel
theorem dX0_ordinary_0 : decode cX0_ordinary 0 = .ok (.aload_n 0, 1) := by decide +kernel
theorem dX0_ordinary_1 : decode cX0_ordinary 1 = .ok (.getfield 13, 3) := by decide +kernel
theorem dX0_ordinary_4 : decode cX0_ordinary 4 = .ok (.iload_n 1, 1) := by decide +kernel
theorem dX0_ordinary_5 : decode cX0_ordinary 5 = .ok (.iconst (-1), 1) := by decide +kernel
theorem dX0_ordinary_6 : decode cX0_ordinary 6 = .ok (.ixor, 1) := by decide +kernel
theorem dX0_ordinary_7 : decode cX0_ordinary 7 = .ok (.iand, 1) := by decide +kernel
theorem dX0_ordinary_8 : decode cX0_ordinary 8 = .ok (.aload_n 0, 1) := by decide +kernel
theorem dX0_ordinary_9 : decode cX0_ordinary 9 = .ok (.iload_n 1, 1) := by decide +kernel
theorem dX0_ordinary_10 : decode cX0_ordinary 10 = .ok (.aload_n 0, 1) := by decide +kernel
theorem dX0_ordinary_11 : decode cX0_ordinary 11 = .ok (.getfield 19, 3) := by decide +kernel
theorem dX0_ordinary_14 : decode cX0_ordinary 14 = .ok (.invokevirtual 26, 3) := by decide +kernel
theorem dX0_ordinary_17 : decode cX0_ordinary 17 = .ok (.aload_n 0, 1) := by decide +kernel
theorem dX0_ordinary_18 : decode cX0_ordinary 18 = .ok (.iload_n 1, 1) := by decide +kernel
theorem dX0_ordinary_19 : decode cX0_ordinary 19 = .ok (.aload_n 0, 1) := by decide +kernel
theorem dX0_ordinary_20 : decode cX0_ordinary 20 = .ok (.getfield 19, 3) := by decide +kernel
theorem dX0_ordinary_23 : decode cX0_ordinary 23 = .ok (.invokevirtual 30, 3) := by decide +kernel
theorem dX0_ordinary_26 : decode cX0_ordinary 26 = .ok (.ixor, 1) := by decide +kernel
theorem dX0_ordinary_27 : decode cX0_ordinary 27 = .ok (.iconst (-1), 1) := by decide +kernel
theorem dX0_ordinary_28 : decode cX0_ordinary 28 = .ok (.ixor, 1) := by decide +kernel
theorem dX0_ordinary_29 : decode cX0_ordinary 29 = .ok (.iand, 1) := by decide +kernel
theorem dX0_ordinary_30 : decode cX0_ordinary 30 = .ok (.ireturn, 1) := by decide +kernel
theorem dX0_broad_0 : decode cX0_broad 0 = .ok (.aload_n 0, 1) := by decide +kernel
theorem dX0_broad_1 : decode cX0_broad 1 = .ok (.getfield 7, 3) := by decide +kernel
theorem dX0_broad_4 : decode cX0_broad 4 = .ok (.iconst 2, 1) := by decide +kernel
theorem dX0_broad_5 : decode cX0_broad 5 = .ok (.if_icmp .ge 5, 3) := by decide +kernel
theorem dX0_broad_8 : decode cX0_broad 8 = .ok (.iconst 0, 1) := by decide +kernel
theorem dX0_broad_9 : decode cX0_broad 9 = .ok (.ireturn, 1) := by decide +kernel
theorem dX0_broad_10 : decode cX0_broad 10 = .ok (.aload_n 0, 1) := by decide +kernel
theorem dX0_broad_11 : decode cX0_broad 11 = .ok (.getfield 13, 3) := by decide +kernel
theorem dX0_broad_14 : decode cX0_broad 14 = .ok (.iload_n 1, 1) := by decide +kernel
theorem dX0_broad_15 : decode cX0_broad 15 = .ok (.iconst (-1), 1) := by decide +kernel
theorem dX0_broad_16 : decode cX0_broad 16 = .ok (.ixor, 1) := by decide +kernel
theorem dX0_broad_17 : decode cX0_broad 17 = .ok (.iand, 1) := by decide +kernel
theorem dX0_broad_18 : decode cX0_broad 18 = .ok (.aload_n 0, 1) := by decide +kernel
theorem dX0_broad_19 : decode cX0_broad 19 = .ok (.iload_n 1, 1) := by decide +kernel
theorem dX0_broad_20 : decode cX0_broad 20 = .ok (.iconst 1, 1) := by decide +kernel
theorem dX0_broad_21 : decode cX0_broad 21 = .ok (.invokevirtual 30, 3) := by decide +kernel
theorem dX0_broad_24 : decode cX0_broad 24 = .ok (.iconst (-1), 1) := by decide +kernel
theorem dX0_broad_25 : decode cX0_broad 25 = .ok (.ixor, 1) := by decide +kernel
theorem dX0_broad_26 : decode cX0_broad 26 = .ok (.iand, 1) := by decide +kernel
theorem dX0_broad_27 : decode cX0_broad 27 = .ok (.istore_n 3, 1) := by decide +kernel
theorem dX0_broad_28 : decode cX0_broad 28 = .ok (.aload_n 0, 1) := by decide +kernel
theorem dX0_broad_29 : decode cX0_broad 29 = .ok (.iload_n 1, 1) := by decide +kernel
theorem dX0_broad_30 : decode cX0_broad 30 = .ok (.aload_n 0, 1) := by decide +kernel
theorem dX0_broad_31 : decode cX0_broad 31 = .ok (.getfield 19, 3) := by decide +kernel
theorem dX0_broad_34 : decode cX0_broad 34 = .ok (.invokevirtual 26, 3) := by decide +kernel
theorem dX0_broad_37 : decode cX0_broad 37 = .ok (.istore 4, 2) := by decide +kernel
theorem dX0_broad_39 : decode cX0_broad 39 = .ok (.aload_n 0, 1) := by decide +kernel
theorem dX0_broad_40 : decode cX0_broad 40 = .ok (.aload_n 0, 1) := by decide +kernel
theorem dX0_broad_41 : decode cX0_broad 41 = .ok (.iload_n 1, 1) := by decide +kernel
theorem dX0_broad_42 : decode cX0_broad 42 = .ok (.aload_n 0, 1) := by decide +kernel
theorem dX0_broad_43 : decode cX0_broad 43 = .ok (.getfield 19, 3) := by decide +kernel
theorem dX0_broad_46 : decode cX0_broad 46 = .ok (.invokevirtual 30, 3) := by decide +kernel
theorem dX0_broad_49 : decode cX0_broad 49 = .ok (.aload_n 0, 1) := by decide +kernel
theorem dX0_broad_50 : decode cX0_broad 50 = .ok (.getfield 19, 3) := by decide +kernel
theorem dX0_broad_53 : decode cX0_broad 53 = .ok (.invokevirtual 30, 3) := by decide +kernel
theorem dX0_broad_56 : decode cX0_broad 56 = .ok (.istore 5, 2) := by decide +kernel
theorem dX0_broad_58 : decode cX0_broad 58 = .ok (.iload_n 3, 1) := by decide +kernel
theorem dX0_broad_59 : decode cX0_broad 59 = .ok (.iload_n 2, 1) := by decide +kernel
theorem dX0_broad_60 : decode cX0_broad 60 = .ok (.ifCond .eq 11, 3) := by decide +kernel
theorem dX0_broad_63 : decode cX0_broad 63 = .ok (.iload 4, 2) := by decide +kernel
theorem dX0_broad_65 : decode cX0_broad 65 = .ok (.iload 5, 2) := by decide +kernel
theorem dX0_broad_67 : decode cX0_broad 67 = .ok (.ior, 1) := by decide +kernel
theorem dX0_broad_68 : decode cX0_broad 68 = .ok (.goto 8, 3) := by decide +kernel
theorem dX0_broad_71 : decode cX0_broad 71 = .ok (.iload 4, 2) := by decide +kernel
theorem dX0_broad_73 : decode cX0_broad 73 = .ok (.iload 5, 2) := by decide +kernel
theorem dX0_broad_75 : decode cX0_broad 75 = .ok (.ixor, 1) := by decide +kernel
theorem dX0_broad_76 : decode cX0_broad 76 = .ok (.iconst (-1), 1) := by decide +kernel
theorem dX0_broad_77 : decode cX0_broad 77 = .ok (.ixor, 1) := by decide +kernel
theorem dX0_broad_78 : decode cX0_broad 78 = .ok (.iand, 1) := by decide +kernel
theorem dX0_broad_79 : decode cX0_broad 79 = .ok (.ireturn, 1) := by decide +kernel
theorem dX1_init_0 : decode cX1_init 0 = .ok (.aload_n 0, 1) := by decide +kernel
theorem dX1_init_1 : decode cX1_init 1 = .ok (.invokespecial 3, 3) := by decide +kernel
theorem dX1_init_4 : decode cX1_init 4 = .ok (.aload_n 0, 1) := by decide +kernel
theorem dX1_init_5 : decode cX1_init 5 = .ok (.new 9, 3) := by decide +kernel
theorem dX1_init_8 : decode cX1_init 8 = .ok (.dup, 1) := by decide +kernel
theorem dX1_init_9 : decode cX1_init 9 = .ok (.invokespecial 11, 3) := by decide +kernel
theorem dX1_init_12 : decode cX1_init 12 = .ok (.putfield 12, 3) := by decide +kernel
theorem dX1_init_15 : decode cX1_init 15 = .ok (.aload_n 0, 1) := by decide +kernel
theorem dX1_init_16 : decode cX1_init 16 = .ok (.bipush 12, 2) := by decide +kernel
theorem dX1_init_18 : decode cX1_init 18 = .ok (.anewarray 18, 3) := by decide +kernel
theorem dX1_init_21 : decode cX1_init 21 = .ok (.putfield 20, 3) := by decide +kernel
theorem dX1_init_24 : decode cX1_init 24 = .ok (.aload_n 0, 1) := by decide +kernel
theorem dX1_init_25 : decode cX1_init 25 = .ok (.bipush 12, 2) := by decide +kernel
theorem dX1_init_27 : decode cX1_init 27 = .ok (.newarray .int, 2) := by decide +kernel
theorem dX1_init_29 : decode cX1_init 29 = .ok (.putfield 24, 3) := by decide +kernel
theorem dX1_init_32 : decode cX1_init 32 = .ok (.aload_n 0, 1) := by decide +kernel
theorem dX1_init_33 : decode cX1_init 33 = .ok (.iconst 4, 1) := by decide +kernel
theorem dX1_init_34 : decode cX1_init 34 = .ok (.newarray .int, 2) := by decide +kernel
theorem dX1_init_36 : decode cX1_init 36 = .ok (.dup, 1) := by decide +kernel
theorem dX1_init_37 : decode cX1_init 37 = .ok (.iconst 0, 1) := by decide +kernel
theorem dX1_init_38 : decode cX1_init 38 = .ok (.iconst 1, 1) := by decide +kernel
theorem dX1_init_39 : decode cX1_init 39 = .ok (.iastore, 1) := by decide +kernel
theorem dX1_init_40 : decode cX1_init 40 = .ok (.dup, 1) := by decide +kernel
theorem dX1_init_41 : decode cX1_init 41 = .ok (.iconst 1, 1) := by decide +kernel
theorem dX1_init_42 : decode cX1_init 42 = .ok (.iconst 0, 1) := by decide +kernel
theorem dX1_init_43 : decode cX1_init 43 = .ok (.iastore, 1) := by decide +kernel
theorem dX1_init_44 : decode cX1_init 44 = .ok (.dup, 1) := by decide +kernel
theorem dX1_init_45 : decode cX1_init 45 = .ok (.iconst 2, 1) := by decide +kernel
theorem dX1_init_46 : decode cX1_init 46 = .ok (.bipush 50, 2) := by decide +kernel
theorem dX1_init_48 : decode cX1_init 48 = .ok (.iastore, 1) := by decide +kernel
theorem dX1_init_49 : decode cX1_init 49 = .ok (.dup, 1) := by decide +kernel
theorem dX1_init_50 : decode cX1_init 50 = .ok (.iconst 3, 1) := by decide +kernel
theorem dX1_init_51 : decode cX1_init 51 = .ok (.bipush 10, 2) := by decide +kernel
theorem dX1_init_53 : decode cX1_init 53 = .ok (.iastore, 1) := by decide +kernel
theorem dX1_init_54 : decode cX1_init 54 = .ok (.putfield 28, 3) := by decide +kernel
theorem dX1_init_57 : decode cX1_init 57 = .ok (.aload_n 0, 1) := by decide +kernel
theorem dX1_init_58 : decode cX1_init 58 = .ok (.iconst 1, 1) := by decide +kernel
theorem dX1_init_59 : decode cX1_init 59 = .ok (.putfield 31, 3) := by decide +kernel
theorem dX1_init_62 : decode cX1_init 62 = .ok (.aload_n 0, 1) := by decide +kernel
theorem dX1_init_63 : decode cX1_init 63 = .ok (.bipush 14, 2) := by decide +kernel
theorem dX1_init_65 : decode cX1_init 65 = .ok (.anewarray 35, 3) := by decide +kernel
theorem dX1_init_68 : decode cX1_init 68 = .ok (.putfield 37, 3) := by decide +kernel
theorem dX1_init_71 : decode cX1_init 71 = .ok (.aload_n 0, 1) := by decide +kernel
theorem dX1_init_72 : decode cX1_init 72 = .ok (.iconst 3, 1) := by decide +kernel
theorem dX1_init_73 : decode cX1_init 73 = .ok (.newarray .int, 2) := by decide +kernel
theorem dX1_init_75 : decode cX1_init 75 = .ok (.dup, 1) := by decide +kernel
theorem dX1_init_76 : decode cX1_init 76 = .ok (.iconst 0, 1) := by decide +kernel
theorem dX1_init_77 : decode cX1_init 77 = .ok (.ldc 41, 2) := by decide +kernel
theorem dX1_init_79 : decode cX1_init 79 = .ok (.iastore, 1) := by decide +kernel
theorem dX1_init_80 : decode cX1_init 80 = .ok (.dup, 1) := by decide +kernel
theorem dX1_init_81 : decode cX1_init 81 = .ok (.iconst 1, 1) := by decide +kernel
theorem dX1_init_82 : decode cX1_init 82 = .ok (.ldc 41, 2) := by decide +kernel
theorem dX1_init_84 : decode cX1_init 84 = .ok (.iastore, 1) := by decide +kernel
theorem dX1_init_85 : decode cX1_init 85 = .ok (.dup, 1) := by decide +kernel
theorem dX1_init_86 : decode cX1_init 86 = .ok (.iconst 2, 1) := by decide +kernel
theorem dX1_init_87 : decode cX1_init 87 = .ok (.ldc 41, 2) := by decide +kernel
theorem dX1_init_89 : decode cX1_init 89 = .ok (.iastore, 1) := by decide +kernel
theorem dX1_init_90 : decode cX1_init 90 = .ok (.putfield 42, 3) := by decide +kernel
theorem dX1_init_93 : decode cX1_init 93 = .ok (.iconst 0, 1) := by decide +kernel
theorem dX1_init_94 : decode cX1_init 94 = .ok (.istore_n 1, 1) := by decide +kernel
theorem dX1_init_95 : decode cX1_init 95 = .ok (.iload_n 1, 1) := by decide +kernel
theorem dX1_init_96 : decode cX1_init 96 = .ok (.bipush 12, 2) := by decide +kernel
theorem dX1_init_98 : decode cX1_init 98 = .ok (.if_icmp .ge 22, 3) := by decide +kernel
theorem dX1_init_101 : decode cX1_init 101 = .ok (.aload_n 0, 1) := by decide +kernel
theorem dX1_init_102 : decode cX1_init 102 = .ok (.getfield 20, 3) := by decide +kernel
theorem dX1_init_105 : decode cX1_init 105 = .ok (.iload_n 1, 1) := by decide +kernel
theorem dX1_init_106 : decode cX1_init 106 = .ok (.new 18, 3) := by decide +kernel
theorem dX1_init_109 : decode cX1_init 109 = .ok (.dup, 1) := by decide +kernel
theorem dX1_init_110 : decode cX1_init 110 = .ok (.invokespecial 45, 3) := by decide +kernel
theorem dX1_init_113 : decode cX1_init 113 = .ok (.aastore, 1) := by decide +kernel
theorem dX1_init_114 : decode cX1_init 114 = .ok (.iinc 1 1, 3) := by decide +kernel
theorem dX1_init_117 : decode cX1_init 117 = .ok (.goto (-22), 3) := by decide +kernel
theorem dX1_init_120 : decode cX1_init 120 = .ok (.return_, 1) := by decide +kernel
theorem dX1_become_0 : decode cX1_become 0 = .ok (.aload_n 0, 1) := by decide +kernel
theorem dX1_become_1 : decode cX1_become 1 = .ok (.getfield 12, 3) := by decide +kernel
theorem dX1_become_4 : decode cX1_become 4 = .ok (.aload_n 1, 1) := by decide +kernel
theorem dX1_become_5 : decode cX1_become 5 = .ok (.getfield 12, 3) := by decide +kernel
theorem dX1_become_8 : decode cX1_become 8 = .ok (.invokevirtual 46, 3) := by decide +kernel
theorem dX1_become_11 : decode cX1_become 11 = .ok (.aload_n 0, 1) := by decide +kernel
theorem dX1_become_12 : decode cX1_become 12 = .ok (.aload_n 1, 1) := by decide +kernel
theorem dX1_become_13 : decode cX1_become 13 = .ok (.getfield 50, 3) := by decide +kernel
theorem dX1_become_16 : decode cX1_become 16 = .ok (.putfield 50, 3) := by decide +kernel
theorem dX1_become_19 : decode cX1_become 19 = .ok (.iconst 0, 1) := by decide +kernel
theorem dX1_become_20 : decode cX1_become 20 = .ok (.istore_n 2, 1) := by decide +kernel
theorem dX1_become_21 : decode cX1_become 21 = .ok (.iload_n 2, 1) := by decide +kernel
theorem dX1_become_22 : decode cX1_become 22 = .ok (.aload_n 0, 1) := by decide +kernel
theorem dX1_become_23 : decode cX1_become 23 = .ok (.getfield 50, 3) := by decide +kernel
theorem dX1_become_26 : decode cX1_become 26 = .ok (.if_icmp .ge 24, 3) := by decide +kernel
theorem dX1_become_29 : decode cX1_become 29 = .ok (.aload_n 0, 1) := by decide +kernel
theorem dX1_become_30 : decode cX1_become 30 = .ok (.getfield 20, 3) := by decide +kernel
theorem dX1_become_33 : decode cX1_become 33 = .ok (.iload_n 2, 1) := by decide +kernel
theorem dX1_become_34 : decode cX1_become 34 = .ok (.aaload, 1) := by decide +kernel
theorem dX1_become_35 : decode cX1_become 35 = .ok (.aload_n 1, 1) := by decide +kernel
theorem dX1_become_36 : decode cX1_become 36 = .ok (.getfield 20, 3) := by decide +kernel
theorem dX1_become_39 : decode cX1_become 39 = .ok (.iload_n 2, 1) := by decide +kernel
theorem dX1_become_40 : decode cX1_become 40 = .ok (.aaload, 1) := by decide +kernel
theorem dX1_become_41 : decode cX1_become 41 = .ok (.invokevirtual 53, 3) := by decide +kernel
theorem dX1_become_44 : decode cX1_become 44 = .ok (.iinc 2 1, 3) := by decide +kernel
theorem dX1_become_47 : decode cX1_become 47 = .ok (.goto (-26), 3) := by decide +kernel
theorem dX1_become_50 : decode cX1_become 50 = .ok (.aload_n 1, 1) := by decide +kernel
theorem dX1_become_51 : decode cX1_become 51 = .ok (.getfield 24, 3) := by decide +kernel
theorem dX1_become_54 : decode cX1_become 54 = .ok (.iconst 0, 1) := by decide +kernel
theorem dX1_become_55 : decode cX1_become 55 = .ok (.aload_n 0, 1) := by decide +kernel
theorem dX1_become_56 : decode cX1_become 56 = .ok (.getfield 24, 3) := by decide +kernel
theorem dX1_become_59 : decode cX1_become 59 = .ok (.iconst 0, 1) := by decide +kernel
theorem dX1_become_60 : decode cX1_become 60 = .ok (.bipush 12, 2) := by decide +kernel
theorem dX1_become_62 : decode cX1_become 62 = .ok (.invokestatic 56, 3) := by decide +kernel
theorem dX1_become_65 : decode cX1_become 65 = .ok (.aload_n 1, 1) := by decide +kernel
theorem dX1_become_66 : decode cX1_become 66 = .ok (.getfield 28, 3) := by decide +kernel
theorem dX1_become_69 : decode cX1_become 69 = .ok (.iconst 0, 1) := by decide +kernel
theorem dX1_become_70 : decode cX1_become 70 = .ok (.aload_n 0, 1) := by decide +kernel
theorem dX1_become_71 : decode cX1_become 71 = .ok (.getfield 28, 3) := by decide +kernel
theorem dX1_become_74 : decode cX1_become 74 = .ok (.iconst 0, 1) := by decide +kernel
theorem dX1_become_75 : decode cX1_become 75 = .ok (.aload_n 0, 1) := by decide +kernel
theorem dX1_become_76 : decode cX1_become 76 = .ok (.getfield 28, 3) := by decide +kernel
theorem dX1_become_79 : decode cX1_become 79 = .ok (.arraylength, 1) := by decide +kernel
theorem dX1_become_80 : decode cX1_become 80 = .ok (.invokestatic 56, 3) := by decide +kernel
theorem dX1_become_83 : decode cX1_become 83 = .ok (.aload_n 0, 1) := by decide +kernel
theorem dX1_become_84 : decode cX1_become 84 = .ok (.aload_n 1, 1) := by decide +kernel
theorem dX1_become_85 : decode cX1_become 85 = .ok (.getfield 62, 3) := by decide +kernel
theorem dX1_become_88 : decode cX1_become 88 = .ok (.putfield 62, 3) := by decide +kernel
theorem dX1_become_91 : decode cX1_become 91 = .ok (.aload_n 0, 1) := by decide +kernel
theorem dX1_become_92 : decode cX1_become 92 = .ok (.aload_n 1, 1) := by decide +kernel
theorem dX1_become_93 : decode cX1_become 93 = .ok (.getfield 65, 3) := by decide +kernel
theorem dX1_become_96 : decode cX1_become 96 = .ok (.putfield 65, 3) := by decide +kernel
theorem dX1_become_99 : decode cX1_become 99 = .ok (.aload_n 0, 1) := by decide +kernel
theorem dX1_become_100 : decode cX1_become 100 = .ok (.aload_n 1, 1) := by decide +kernel
theorem dX1_become_101 : decode cX1_become 101 = .ok (.getfield 31, 3) := by decide +kernel
theorem dX1_become_104 : decode cX1_become 104 = .ok (.putfield 31, 3) := by decide +kernel
theorem dX1_become_107 : decode cX1_become 107 = .ok (.aload_n 0, 1) := by decide +kernel
theorem dX1_become_108 : decode cX1_become 108 = .ok (.aload_n 1, 1) := by decide +kernel
theorem dX1_become_109 : decode cX1_become 109 = .ok (.getfield 68, 3) := by decide +kernel
theorem dX1_become_112 : decode cX1_become 112 = .ok (.putfield 68, 3) := by decide +kernel
theorem dX1_become_115 : decode cX1_become 115 = .ok (.iconst 0, 1) := by decide +kernel
theorem dX1_become_116 : decode cX1_become 116 = .ok (.istore_n 2, 1) := by decide +kernel
theorem dX1_become_117 : decode cX1_become 117 = .ok (.iload_n 2, 1) := by decide +kernel
theorem dX1_become_118 : decode cX1_become 118 = .ok (.aload_n 0, 1) := by decide +kernel
theorem dX1_become_119 : decode cX1_become 119 = .ok (.getfield 68, 3) := by decide +kernel
theorem dX1_become_122 : decode cX1_become 122 = .ok (.if_icmp .ge 21, 3) := by decide +kernel
theorem dX1_become_125 : decode cX1_become 125 = .ok (.aload_n 0, 1) := by decide +kernel
theorem dX1_become_126 : decode cX1_become 126 = .ok (.getfield 37, 3) := by decide +kernel
theorem dX1_become_129 : decode cX1_become 129 = .ok (.iload_n 2, 1) := by decide +kernel
theorem dX1_become_130 : decode cX1_become 130 = .ok (.aload_n 1, 1) := by decide +kernel
theorem dX1_become_131 : decode cX1_become 131 = .ok (.getfield 37, 3) := by decide +kernel
theorem dX1_become_134 : decode cX1_become 134 = .ok (.iload_n 2, 1) := by decide +kernel
theorem dX1_become_135 : decode cX1_become 135 = .ok (.aaload, 1) := by decide +kernel
theorem dX1_become_136 : decode cX1_become 136 = .ok (.aastore, 1) := by decide +kernel
theorem dX1_become_137 : decode cX1_become 137 = .ok (.iinc 2 1, 3) := by decide +kernel
theorem dX1_become_140 : decode cX1_become 140 = .ok (.goto (-23), 3) := by decide +kernel
theorem dX1_become_143 : decode cX1_become 143 = .ok (.aload_n 1, 1) := by decide +kernel
theorem dX1_become_144 : decode cX1_become 144 = .ok (.getfield 42, 3) := by decide +kernel
theorem dX1_become_147 : decode cX1_become 147 = .ok (.iconst 0, 1) := by decide +kernel
theorem dX1_become_148 : decode cX1_become 148 = .ok (.aload_n 0, 1) := by decide +kernel
theorem dX1_become_149 : decode cX1_become 149 = .ok (.getfield 42, 3) := by decide +kernel
theorem dX1_become_152 : decode cX1_become 152 = .ok (.iconst 0, 1) := by decide +kernel
theorem dX1_become_153 : decode cX1_become 153 = .ok (.aload_n 0, 1) := by decide +kernel
theorem dX1_become_154 : decode cX1_become 154 = .ok (.getfield 42, 3) := by decide +kernel
theorem dX1_become_157 : decode cX1_become 157 = .ok (.arraylength, 1) := by decide +kernel
theorem dX1_become_158 : decode cX1_become 158 = .ok (.invokestatic 56, 3) := by decide +kernel
theorem dX1_become_161 : decode cX1_become 161 = .ok (.return_, 1) := by decide +kernel
theorem dX1_setUp_0 : decode cX1_setUp 0 = .ok (.aload_n 0, 1) := by decide +kernel
theorem dX1_setUp_1 : decode cX1_setUp 1 = .ok (.invokevirtual 71, 3) := by decide +kernel
theorem dX1_setUp_4 : decode cX1_setUp 4 = .ok (.istore 4, 2) := by decide +kernel
theorem dX1_setUp_6 : decode cX1_setUp 6 = .ok (.aload_n 0, 1) := by decide +kernel
theorem dX1_setUp_7 : decode cX1_setUp 7 = .ok (.getfield 12, 3) := by decide +kernel
theorem dX1_setUp_10 : decode cX1_setUp 10 = .ok (.iload_n 1, 1) := by decide +kernel
theorem dX1_setUp_11 : decode cX1_setUp 11 = .ok (.iload_n 2, 1) := by decide +kernel
theorem dX1_setUp_12 : decode cX1_setUp 12 = .ok (.iload_n 3, 1) := by decide +kernel
theorem dX1_setUp_13 : decode cX1_setUp 13 = .ok (.invokevirtual 75, 3) := by decide +kernel
theorem dX1_setUp_16 : decode cX1_setUp 16 = .ok (.iconst 0, 1) := by decide +kernel
theorem dX1_setUp_17 : decode cX1_setUp 17 = .ok (.istore 5, 2) := by decide +kernel
theorem dX1_setUp_19 : decode cX1_setUp 19 = .ok (.iload 5, 2) := by decide +kernel
theorem dX1_setUp_21 : decode cX1_setUp 21 = .ok (.aload_n 0, 1) := by decide +kernel
theorem dX1_setUp_22 : decode cX1_setUp 22 = .ok (.getfield 50, 3) := by decide +kernel
theorem dX1_setUp_25 : decode cX1_setUp 25 = .ok (.if_icmp .ge 20, 3) := by decide +kernel
theorem dX1_setUp_28 : decode cX1_setUp 28 = .ok (.aload_n 0, 1) := by decide +kernel
theorem dX1_setUp_29 : decode cX1_setUp 29 = .ok (.getfield 20, 3) := by decide +kernel
theorem dX1_setUp_32 : decode cX1_setUp 32 = .ok (.iload 5, 2) := by decide +kernel
theorem dX1_setUp_34 : decode cX1_setUp 34 = .ok (.aaload, 1) := by decide +kernel
theorem dX1_setUp_35 : decode cX1_setUp 35 = .ok (.iconst (-1), 1) := by decide +kernel
theorem dX1_setUp_36 : decode cX1_setUp 36 = .ok (.putfield 79, 3) := by decide +kernel
theorem dX1_setUp_39 : decode cX1_setUp 39 = .ok (.iinc 5 1, 3) := by decide +kernel
theorem dX1_setUp_42 : decode cX1_setUp 42 = .ok (.goto (-23), 3) := by decide +kernel
theorem dX1_setUp_45 : decode cX1_setUp 45 = .ok (.iconst 0, 1) := by decide +kernel
theorem dX1_setUp_46 : decode cX1_setUp 46 = .ok (.istore 5, 2) := by decide +kernel
theorem dX1_setUp_48 : decode cX1_setUp 48 = .ok (.iload 5, 2) := by decide +kernel
theorem dX1_setUp_50 : decode cX1_setUp 50 = .ok (.bipush 12, 2) := by decide +kernel
theorem dX1_setUp_52 : decode cX1_setUp 52 = .ok (.if_icmp .ge 17, 3) := by decide +kernel
theorem dX1_setUp_55 : decode cX1_setUp 55 = .ok (.aload_n 0, 1) := by decide +kernel
theorem dX1_setUp_56 : decode cX1_setUp 56 = .ok (.getfield 24, 3) := by decide +kernel
theorem dX1_setUp_59 : decode cX1_setUp 59 = .ok (.iload 5, 2) := by decide +kernel
theorem dX1_setUp_61 : decode cX1_setUp 61 = .ok (.iconst 0, 1) := by decide +kernel
theorem dX1_setUp_62 : decode cX1_setUp 62 = .ok (.iastore, 1) := by decide +kernel
theorem dX1_setUp_63 : decode cX1_setUp 63 = .ok (.iinc 5 1, 3) := by decide +kernel
theorem dX1_setUp_66 : decode cX1_setUp 66 = .ok (.goto (-18), 3) := by decide +kernel
theorem dX1_setUp_69 : decode cX1_setUp 69 = .ok (.iload 4, 2) := by decide +kernel
theorem dX1_setUp_71 : decode cX1_setUp 71 = .ok (.ireturn, 1) := by decide +kernel
theorem dX1_welcome_0 : decode cX1_welcome 0 = .ok (.aload_n 0, 1) := by decide +kernel
theorem dX1_welcome_1 : decode cX1_welcome 1 = .ok (.getfield 50, 3) := by decide +kernel
theorem dX1_welcome_4 : decode cX1_welcome 4 = .ok (.bipush 12, 2) := by decide +kernel
theorem dX1_welcome_6 : decode cX1_welcome 6 = .ok (.if_icmp .lt 6, 3) := by decide +kernel
theorem dX1_welcome_9 : decode cX1_welcome 9 = .ok (.ldc 82, 2) := by decide +kernel
theorem dX1_welcome_11 : decode cX1_welcome 11 = .ok (.ireturn, 1) := by decide +kernel
theorem dX1_welcome_12 : decode cX1_welcome 12 = .ok (.aload_n 0, 1) := by decide +kernel
theorem dX1_welcome_13 : decode cX1_welcome 13 = .ok (.getfield 20, 3) := by decide +kernel
theorem dX1_welcome_16 : decode cX1_welcome 16 = .ok (.aload_n 0, 1) := by decide +kernel
theorem dX1_welcome_17 : decode cX1_welcome 17 = .ok (.getfield 50, 3) := by decide +kernel
theorem dX1_welcome_20 : decode cX1_welcome 20 = .ok (.aaload, 1) := by decide +kernel
theorem dX1_welcome_21 : decode cX1_welcome 21 = .ok (.iload_n 1, 1) := by decide +kernel
theorem dX1_welcome_22 : decode cX1_welcome 22 = .ok (.invokevirtual 83, 3) := by decide +kernel
theorem dX1_welcome_25 : decode cX1_welcome 25 = .ok (.aload_n 0, 1) := by decide +kernel
theorem dX1_welcome_26 : decode cX1_welcome 26 = .ok (.dup, 1) := by decide +kernel
theorem dX1_welcome_27 : decode cX1_welcome 27 = .ok (.getfield 50, 3) := by decide +kernel
theorem dX1_welcome_30 : decode cX1_welcome 30 = .ok (.iconst 1, 1) := by decide +kernel
theorem dX1_welcome_31 : decode cX1_welcome 31 = .ok (.iadd, 1) := by decide +kernel
theorem dX1_welcome_32 : decode cX1_welcome 32 = .ok (.putfield 50, 3) := by decide +kernel
theorem dX1_welcome_35 : decode cX1_welcome 35 = .ok (.aload_n 0, 1) := by decide +kernel
theorem dX1_welcome_36 : decode cX1_welcome 36 = .ok (.getfield 50, 3) := by decide +kernel
theorem dX1_welcome_39 : decode cX1_welcome 39 = .ok (.iconst 1, 1) := by decide +kernel
theorem dX1_welcome_40 : decode cX1_welcome 40 = .ok (.isub, 1) := by decide +kernel
theorem dX1_welcome_41 : decode cX1_welcome 41 = .ok (.ireturn, 1) := by decide +kernel
theorem dX1_placesOf_0 : decode cX1_placesOf 0 = .ok (.aload_n 1, 1) := by decide +kernel
theorem dX1_placesOf_1 : decode cX1_placesOf 1 = .ok (.invokevirtual 87, 3) := by decide +kernel
theorem dX1_placesOf_4 : decode cX1_placesOf 4 = .ok (.ifCond .ne 5, 3) := by decide +kernel
theorem dX1_placesOf_7 : decode cX1_placesOf 7 = .ok (.iconst 0, 1) := by decide +kernel
theorem dX1_placesOf_8 : decode cX1_placesOf 8 = .ok (.ireturn, 1) := by decide +kernel
theorem dX1_placesOf_9 : decode cX1_placesOf 9 = .ok (.iconst 1, 1) := by decide +kernel
theorem dX1_placesOf_10 : decode cX1_placesOf 10 = .ok (.aload_n 1, 1) := by decide +kernel
theorem dX1_placesOf_11 : decode cX1_placesOf 11 = .ok (.getfield 79, 3) := by decide +kernel
theorem dX1_placesOf_14 : decode cX1_placesOf 14 = .ok (.ishl, 1) := by decide +kernel
theorem dX1_placesOf_15 : decode cX1_placesOf 15 = .ok (.istore_n 2, 1) := by decide +kernel
theorem dX1_placesOf_16 : decode cX1_placesOf 16 = .ok (.aload_n 1, 1) := by decide +kernel
theorem dX1_placesOf_17 : decode cX1_placesOf 17 = .ok (.iconst 1, 1) := by decide +kernel
theorem dX1_placesOf_18 : decode cX1_placesOf 18 = .ok (.invokevirtual 91, 3) := by decide +kernel
theorem dX1_placesOf_21 : decode cX1_placesOf 21 = .ok (.ifCond .ne 5, 3) := by decide +kernel
theorem dX1_placesOf_24 : decode cX1_placesOf 24 = .ok (.iload_n 2, 1) := by decide +kernel
theorem dX1_placesOf_25 : decode cX1_placesOf 25 = .ok (.ireturn, 1) := by decide +kernel
theorem dX1_placesOf_26 : decode cX1_placesOf 26 = .ok (.aload_n 1, 1) := by decide +kernel
theorem dX1_placesOf_27 : decode cX1_placesOf 27 = .ok (.getfield 79, 3) := by decide +kernel
theorem dX1_placesOf_30 : decode cX1_placesOf 30 = .ok (.iconst 1, 1) := by decide +kernel
theorem dX1_placesOf_31 : decode cX1_placesOf 31 = .ok (.iadd, 1) := by decide +kernel
theorem dX1_placesOf_32 : decode cX1_placesOf 32 = .ok (.aload_n 0, 1) := by decide +kernel
theorem dX1_placesOf_33 : decode cX1_placesOf 33 = .ok (.getfield 12, 3) := by decide +kernel
theorem dX1_placesOf_36 : decode cX1_placesOf 36 = .ok (.getfield 95, 3) := by decide +kernel
theorem dX1_placesOf_39 : decode cX1_placesOf 39 = .ok (.if_icmp .ge 12, 3) := by decide +kernel
theorem dX1_placesOf_42 : decode cX1_placesOf 42 = .ok (.aload_n 1, 1) := by decide +kernel
theorem dX1_placesOf_43 : decode cX1_placesOf 43 = .ok (.getfield 79, 3) := by decide +kernel
theorem dX1_placesOf_46 : decode cX1_placesOf 46 = .ok (.iconst 1, 1) := by decide +kernel
theorem dX1_placesOf_47 : decode cX1_placesOf 47 = .ok (.iadd, 1) := by decide +kernel
theorem dX1_placesOf_48 : decode cX1_placesOf 48 = .ok (.goto 4, 3) := by decide +kernel
theorem dX1_placesOf_51 : decode cX1_placesOf 51 = .ok (.iconst 0, 1) := by decide +kernel
theorem dX1_placesOf_52 : decode cX1_placesOf 52 = .ok (.istore_n 3, 1) := by decide +kernel
theorem dX1_placesOf_53 : decode cX1_placesOf 53 = .ok (.iload_n 2, 1) := by decide +kernel
theorem dX1_placesOf_54 : decode cX1_placesOf 54 = .ok (.iconst 1, 1) := by decide +kernel
theorem dX1_placesOf_55 : decode cX1_placesOf 55 = .ok (.iload_n 3, 1) := by decide +kernel
theorem dX1_placesOf_56 : decode cX1_placesOf 56 = .ok (.ishl, 1) := by decide +kernel
theorem dX1_placesOf_57 : decode cX1_placesOf 57 = .ok (.ior, 1) := by decide +kernel
theorem dX1_placesOf_58 : decode cX1_placesOf 58 = .ok (.ireturn, 1) := by decide +kernel
theorem dX1_taken_0 : decode cX1_taken 0 = .ok (.iconst 0, 1) := by decide +kernel
theorem dX1_taken_1 : decode cX1_taken 1 = .ok (.istore_n 1, 1) := by decide +kernel
theorem dX1_taken_2 : decode cX1_taken 2 = .ok (.iconst 0, 1) := by decide +kernel
theorem dX1_taken_3 : decode cX1_taken 3 = .ok (.istore_n 2, 1) := by decide +kernel
theorem dX1_taken_4 : decode cX1_taken 4 = .ok (.iload_n 2, 1) := by decide +kernel
theorem dX1_taken_5 : decode cX1_taken 5 = .ok (.aload_n 0, 1) := by decide +kernel
theorem dX1_taken_6 : decode cX1_taken 6 = .ok (.getfield 50, 3) := by decide +kernel
theorem dX1_taken_9 : decode cX1_taken 9 = .ok (.if_icmp .ge 22, 3) := by decide +kernel
theorem dX1_taken_12 : decode cX1_taken 12 = .ok (.iload_n 1, 1) := by decide +kernel
theorem dX1_taken_13 : decode cX1_taken 13 = .ok (.aload_n 0, 1) := by decide +kernel
theorem dX1_taken_14 : decode cX1_taken 14 = .ok (.aload_n 0, 1) := by decide +kernel
theorem dX1_taken_15 : decode cX1_taken 15 = .ok (.getfield 20, 3) := by decide +kernel
theorem dX1_taken_18 : decode cX1_taken 18 = .ok (.iload_n 2, 1) := by decide +kernel
theorem dX1_taken_19 : decode cX1_taken 19 = .ok (.aaload, 1) := by decide +kernel
theorem dX1_taken_20 : decode cX1_taken 20 = .ok (.invokevirtual 98, 3) := by decide +kernel
theorem dX1_taken_23 : decode cX1_taken 23 = .ok (.ior, 1) := by decide +kernel
theorem dX1_taken_24 : decode cX1_taken 24 = .ok (.istore_n 1, 1) := by decide +kernel
theorem dX1_taken_25 : decode cX1_taken 25 = .ok (.iinc 2 1, 3) := by decide +kernel
theorem dX1_taken_28 : decode cX1_taken 28 = .ok (.goto (-24), 3) := by decide +kernel
theorem dX1_taken_31 : decode cX1_taken 31 = .ok (.iload_n 1, 1) := by decide +kernel
theorem dX1_taken_32 : decode cX1_taken 32 = .ok (.ireturn, 1) := by decide +kernel
theorem dX1_takenByFriends_0 : decode cX1_takenByFriends 0 = .ok (.iconst 0, 1) := by decide +kernel
theorem dX1_takenByFriends_1 : decode cX1_takenByFriends 1 = .ok (.istore_n 1, 1) := by decide +kernel
theorem dX1_takenByFriends_2 : decode cX1_takenByFriends 2 = .ok (.iconst 0, 1) := by decide +kernel
theorem dX1_takenByFriends_3 : decode cX1_takenByFriends 3 = .ok (.istore_n 2, 1) := by decide +kernel
theorem dX1_takenByFriends_4 : decode cX1_takenByFriends 4 = .ok (.iload_n 2, 1) := by decide +kernel
theorem dX1_takenByFriends_5 : decode cX1_takenByFriends 5 = .ok (.aload_n 0, 1) := by decide +kernel
theorem dX1_takenByFriends_6 : decode cX1_takenByFriends 6 = .ok (.getfield 50, 3) := by decide +kernel
theorem dX1_takenByFriends_9 : decode cX1_takenByFriends 9 = .ok (.if_icmp .ge 35, 3) := by decide +kernel
theorem dX1_takenByFriends_12 : decode cX1_takenByFriends 12 = .ok (.aload_n 0, 1) := by decide +kernel
theorem dX1_takenByFriends_13 : decode cX1_takenByFriends 13 = .ok (.getfield 20, 3) := by decide +kernel
theorem dX1_takenByFriends_16 : decode cX1_takenByFriends 16 = .ok (.iload_n 2, 1) := by decide +kernel
theorem dX1_takenByFriends_17 : decode cX1_takenByFriends 17 = .ok (.aaload, 1) := by decide +kernel
theorem dX1_takenByFriends_18 : decode cX1_takenByFriends 18 = .ok (.iconst 2, 1) := by decide +kernel
theorem dX1_takenByFriends_19 : decode cX1_takenByFriends 19 = .ok (.invokevirtual 91, 3) := by decide +kernel
theorem dX1_takenByFriends_22 : decode cX1_takenByFriends 22 = .ok (.ifCond .eq 16, 3) := by decide +kernel
theorem dX1_takenByFriends_25 : decode cX1_takenByFriends 25 = .ok (.iload_n 1, 1) := by decide +kernel
theorem dX1_takenByFriends_26 : decode cX1_takenByFriends 26 = .ok (.aload_n 0, 1) := by decide +kernel
theorem dX1_takenByFriends_27 : decode cX1_takenByFriends 27 = .ok (.aload_n 0, 1) := by decide +kernel
theorem dX1_takenByFriends_28 : decode cX1_takenByFriends 28 = .ok (.getfield 20, 3) := by decide +kernel
theorem dX1_takenByFriends_31 : decode cX1_takenByFriends 31 = .ok (.iload_n 2, 1) := by decide +kernel
theorem dX1_takenByFriends_32 : decode cX1_takenByFriends 32 = .ok (.aaload, 1) := by decide +kernel
theorem dX1_takenByFriends_33 : decode cX1_takenByFriends 33 = .ok (.invokevirtual 98, 3) := by decide +kernel
theorem dX1_takenByFriends_36 : decode cX1_takenByFriends 36 = .ok (.ior, 1) := by decide +kernel
theorem dX1_takenByFriends_37 : decode cX1_takenByFriends 37 = .ok (.istore_n 1, 1) := by decide +kernel
theorem dX1_takenByFriends_38 : decode cX1_takenByFriends 38 = .ok (.iinc 2 1, 3) := by decide +kernel
theorem dX1_takenByFriends_41 : decode cX1_takenByFriends 41 = .ok (.goto (-37), 3) := by decide +kernel
theorem dX1_takenByFriends_44 : decode cX1_takenByFriends 44 = .ok (.iload_n 1, 1) := by decide +kernel
theorem dX1_takenByFriends_45 : decode cX1_takenByFriends 45 = .ok (.ireturn, 1) := by decide +kernel
theorem dX1_seatedCount_0 : decode cX1_seatedCount 0 = .ok (.aload_n 0, 1) := by decide +kernel
theorem dX1_seatedCount_1 : decode cX1_seatedCount 1 = .ok (.getfield 50, 3) := by decide +kernel
theorem dX1_seatedCount_4 : decode cX1_seatedCount 4 = .ok (.aload_n 0, 1) := by decide +kernel
theorem dX1_seatedCount_5 : decode cX1_seatedCount 5 = .ok (.invokevirtual 102, 3) := by decide +kernel
theorem dX1_seatedCount_8 : decode cX1_seatedCount 8 = .ok (.invokestatic 105, 3) := by decide +kernel
theorem dX1_seatedCount_11 : decode cX1_seatedCount 11 = .ok (.isub, 1) := by decide +kernel
theorem dX1_seatedCount_12 : decode cX1_seatedCount 12 = .ok (.ireturn, 1) := by decide +kernel
theorem dX1_standing_0 : decode cX1_standing 0 = .ok (.iconst 0, 1) := by decide +kernel
theorem dX1_standing_1 : decode cX1_standing 1 = .ok (.istore_n 1, 1) := by decide +kernel
theorem dX1_standing_2 : decode cX1_standing 2 = .ok (.iconst 0, 1) := by decide +kernel
theorem dX1_standing_3 : decode cX1_standing 3 = .ok (.istore_n 2, 1) := by decide +kernel
theorem dX1_standing_4 : decode cX1_standing 4 = .ok (.iload_n 2, 1) := by decide +kernel
theorem dX1_standing_5 : decode cX1_standing 5 = .ok (.aload_n 0, 1) := by decide +kernel
theorem dX1_standing_6 : decode cX1_standing 6 = .ok (.getfield 50, 3) := by decide +kernel
theorem dX1_standing_9 : decode cX1_standing 9 = .ok (.if_icmp .ge 27, 3) := by decide +kernel
theorem dX1_standing_12 : decode cX1_standing 12 = .ok (.aload_n 0, 1) := by decide +kernel
theorem dX1_standing_13 : decode cX1_standing 13 = .ok (.getfield 20, 3) := by decide +kernel
theorem dX1_standing_16 : decode cX1_standing 16 = .ok (.iload_n 2, 1) := by decide +kernel
theorem dX1_standing_17 : decode cX1_standing 17 = .ok (.aaload, 1) := by decide +kernel
theorem dX1_standing_18 : decode cX1_standing 18 = .ok (.invokevirtual 87, 3) := by decide +kernel
theorem dX1_standing_21 : decode cX1_standing 21 = .ok (.ifCond .ne 9, 3) := by decide +kernel
theorem dX1_standing_24 : decode cX1_standing 24 = .ok (.iload_n 1, 1) := by decide +kernel
theorem dX1_standing_25 : decode cX1_standing 25 = .ok (.iconst 1, 1) := by decide +kernel
theorem dX1_standing_26 : decode cX1_standing 26 = .ok (.iload_n 2, 1) := by decide +kernel
theorem dX1_standing_27 : decode cX1_standing 27 = .ok (.ishl, 1) := by decide +kernel
theorem dX1_standing_28 : decode cX1_standing 28 = .ok (.ior, 1) := by decide +kernel
theorem dX1_standing_29 : decode cX1_standing 29 = .ok (.istore_n 1, 1) := by decide +kernel
theorem dX1_standing_30 : decode cX1_standing 30 = .ok (.iinc 2 1, 3) := by decide +kernel
theorem dX1_standing_33 : decode cX1_standing 33 = .ok (.goto (-29), 3) := by decide +kernel
theorem dX1_standing_36 : decode cX1_standing 36 = .ok (.iload_n 1, 1) := by decide +kernel
theorem dX1_standing_37 : decode cX1_standing 37 = .ok (.ireturn, 1) := by decide +kernel
theorem dX1_placesFor_0 : decode cX1_placesFor 0 = .ok (.aload_n 1, 1) := by decide +kernel
theorem dX1_placesFor_1 : decode cX1_placesFor 1 = .ok (.invokevirtual 87, 3) := by decide +kernel
theorem dX1_placesFor_4 : decode cX1_placesFor 4 = .ok (.ifCond .eq 5, 3) := by decide +kernel
theorem dX1_placesFor_7 : decode cX1_placesFor 7 = .ok (.iconst 0, 1) := by decide +kernel
theorem dX1_placesFor_8 : decode cX1_placesFor 8 = .ok (.ireturn, 1) := by decide +kernel
theorem dX1_placesFor_9 : decode cX1_placesFor 9 = .ok (.aload_n 0, 1) := by decide +kernel
theorem dX1_placesFor_10 : decode cX1_placesFor 10 = .ok (.aload_n 1, 1) := by decide +kernel
theorem dX1_placesFor_11 : decode cX1_placesFor 11 = .ok (.getfield 111, 3) := by decide +kernel
theorem dX1_placesFor_14 : decode cX1_placesFor 14 = .ok (.aload_n 0, 1) := by decide +kernel
theorem dX1_placesFor_15 : decode cX1_placesFor 15 = .ok (.invokevirtual 114, 3) := by decide +kernel
theorem dX1_placesFor_18 : decode cX1_placesFor 18 = .ok (.aload_n 1, 1) := by decide +kernel
theorem dX1_placesFor_19 : decode cX1_placesFor 19 = .ok (.iconst 2, 1) := by decide +kernel
theorem dX1_placesFor_20 : decode cX1_placesFor 20 = .ok (.invokevirtual 91, 3) := by decide +kernel
theorem dX1_placesFor_23 : decode cX1_placesFor 23 = .ok (.ifCond .eq 10, 3) := by decide +kernel
theorem dX1_placesFor_26 : decode cX1_placesFor 26 = .ok (.aload_n 0, 1) := by decide +kernel
theorem dX1_placesFor_27 : decode cX1_placesFor 27 = .ok (.invokevirtual 117, 3) := by decide +kernel
theorem dX1_placesFor_30 : decode cX1_placesFor 30 = .ok (.goto 4, 3) := by decide +kernel
theorem dX1_placesFor_33 : decode cX1_placesFor 33 = .ok (.iconst 0, 1) := by decide +kernel
theorem dX1_placesFor_34 : decode cX1_placesFor 34 = .ok (.invokevirtual 120, 3) := by decide +kernel
theorem dX1_placesFor_37 : decode cX1_placesFor 37 = .ok (.ireturn, 1) := by decide +kernel
theorem dX1_placesForKind_0 : decode cX1_placesForKind 0 = .ok (.iload_n 1, 1) := by decide +kernel
theorem dX1_placesForKind_1 : decode cX1_placesForKind 1 = .ok (.iconst 1, 1) := by decide +kernel
theorem dX1_placesForKind_2 : decode cX1_placesForKind 2 = .ok (.if_icmp .eq 8, 3) := by decide +kernel
theorem dX1_placesForKind_5 : decode cX1_placesForKind 5 = .ok (.iload_n 1, 1) := by decide +kernel
theorem dX1_placesForKind_6 : decode cX1_placesForKind 6 = .ok (.iconst 3, 1) := by decide +kernel
theorem dX1_placesForKind_7 : decode cX1_placesForKind 7 = .ok (.if_icmp .ne 22, 3) := by decide +kernel
theorem dX1_placesForKind_10 : decode cX1_placesForKind 10 = .ok (.aload_n 0, 1) := by decide +kernel
theorem dX1_placesForKind_11 : decode cX1_placesForKind 11 = .ok (.getfield 12, 3) := by decide +kernel
theorem dX1_placesForKind_14 : decode cX1_placesForKind 14 = .ok (.iload_n 2, 1) := by decide +kernel
theorem dX1_placesForKind_15 : decode cX1_placesForKind 15 = .ok (.iload_n 1, 1) := by decide +kernel
theorem dX1_placesForKind_16 : decode cX1_placesForKind 16 = .ok (.iconst 3, 1) := by decide +kernel
theorem dX1_placesForKind_17 : decode cX1_placesForKind 17 = .ok (.if_icmp .ne 7, 3) := by decide +kernel
theorem dX1_placesForKind_20 : decode cX1_placesForKind 20 = .ok (.iconst 1, 1) := by decide +kernel
theorem dX1_placesForKind_21 : decode cX1_placesForKind 21 = .ok (.goto 4, 3) := by decide +kernel
theorem dX1_placesForKind_24 : decode cX1_placesForKind 24 = .ok (.iconst 0, 1) := by decide +kernel
theorem dX1_placesForKind_25 : decode cX1_placesForKind 25 = .ok (.invokevirtual 124, 3) := by decide +kernel
theorem dX1_placesForKind_28 : decode cX1_placesForKind 28 = .ok (.ireturn, 1) := by decide +kernel
theorem dX1_placesForKind_29 : decode cX1_placesForKind 29 = .ok (.aload_n 0, 1) := by decide +kernel
theorem dX1_placesForKind_30 : decode cX1_placesForKind 30 = .ok (.getfield 12, 3) := by decide +kernel
theorem dX1_placesForKind_33 : decode cX1_placesForKind 33 = .ok (.getfield 128, 3) := by decide +kernel
theorem dX1_placesForKind_36 : decode cX1_placesForKind 36 = .ok (.iload_n 2, 1) := by decide +kernel
theorem dX1_placesForKind_37 : decode cX1_placesForKind 37 = .ok (.iconst (-1), 1) := by decide +kernel
theorem dX1_placesForKind_38 : decode cX1_placesForKind 38 = .ok (.ixor, 1) := by decide +kernel
theorem dX1_placesForKind_39 : decode cX1_placesForKind 39 = .ok (.iand, 1) := by decide +kernel
theorem dX1_placesForKind_40 : decode cX1_placesForKind 40 = .ok (.istore 4, 2) := by decide +kernel
theorem dX1_placesForKind_42 : decode cX1_placesForKind 42 = .ok (.aload_n 0, 1) := by decide +kernel
theorem dX1_placesForKind_43 : decode cX1_placesForKind 43 = .ok (.getfield 12, 3) := by decide +kernel
theorem dX1_placesForKind_46 : decode cX1_placesForKind 46 = .ok (.iload_n 2, 1) := by decide +kernel
theorem dX1_placesForKind_47 : decode cX1_placesForKind 47 = .ok (.aload_n 0, 1) := by decide +kernel
theorem dX1_placesForKind_48 : decode cX1_placesForKind 48 = .ok (.getfield 12, 3) := by decide +kernel
theorem dX1_placesForKind_51 : decode cX1_placesForKind 51 = .ok (.getfield 131, 3) := by decide +kernel
theorem dX1_placesForKind_54 : decode cX1_placesForKind 54 = .ok (.invokevirtual 134, 3) := by decide +kernel
theorem dX1_placesForKind_57 : decode cX1_placesForKind 57 = .ok (.aload_n 0, 1) := by decide +kernel
theorem dX1_placesForKind_58 : decode cX1_placesForKind 58 = .ok (.getfield 12, 3) := by decide +kernel
theorem dX1_placesForKind_61 : decode cX1_placesForKind 61 = .ok (.iload_n 2, 1) := by decide +kernel
theorem dX1_placesForKind_62 : decode cX1_placesForKind 62 = .ok (.aload_n 0, 1) := by decide +kernel
theorem dX1_placesForKind_63 : decode cX1_placesForKind 63 = .ok (.getfield 12, 3) := by decide +kernel
theorem dX1_placesForKind_66 : decode cX1_placesForKind 66 = .ok (.getfield 131, 3) := by decide +kernel
theorem dX1_placesForKind_69 : decode cX1_placesForKind 69 = .ok (.invokevirtual 138, 3) := by decide +kernel
theorem dX1_placesForKind_72 : decode cX1_placesForKind 72 = .ok (.ior, 1) := by decide +kernel
theorem dX1_placesForKind_73 : decode cX1_placesForKind 73 = .ok (.istore 5, 2) := by decide +kernel
theorem dX1_placesForKind_75 : decode cX1_placesForKind 75 = .ok (.iload_n 1, 1) := by decide +kernel
theorem dX1_placesForKind_76 : decode cX1_placesForKind 76 = .ok (.iconst 5, 1) := by decide +kernel
theorem dX1_placesForKind_77 : decode cX1_placesForKind 77 = .ok (.if_icmp .ne 11, 3) := by decide +kernel
theorem dX1_placesForKind_80 : decode cX1_placesForKind 80 = .ok (.iload 4, 2) := by decide +kernel
theorem dX1_placesForKind_82 : decode cX1_placesForKind 82 = .ok (.iload 5, 2) := by decide +kernel
theorem dX1_placesForKind_84 : decode cX1_placesForKind 84 = .ok (.iconst (-1), 1) := by decide +kernel
theorem dX1_placesForKind_85 : decode cX1_placesForKind 85 = .ok (.ixor, 1) := by decide +kernel
theorem dX1_placesForKind_86 : decode cX1_placesForKind 86 = .ok (.iand, 1) := by decide +kernel
theorem dX1_placesForKind_87 : decode cX1_placesForKind 87 = .ok (.ireturn, 1) := by decide +kernel
theorem dX1_placesForKind_88 : decode cX1_placesForKind 88 = .ok (.aload_n 0, 1) := by decide +kernel
theorem dX1_placesForKind_89 : decode cX1_placesForKind 89 = .ok (.getfield 12, 3) := by decide +kernel
theorem dX1_placesForKind_92 : decode cX1_placesForKind 92 = .ok (.iload_n 2, 1) := by decide +kernel
theorem dX1_placesForKind_93 : decode cX1_placesForKind 93 = .ok (.invokevirtual 141, 3) := by decide +kernel
theorem dX1_placesForKind_96 : decode cX1_placesForKind 96 = .ok (.istore 6, 2) := by decide +kernel
theorem dX1_placesForKind_98 : decode cX1_placesForKind 98 = .ok (.iload_n 1, 1) := by decide +kernel
theorem dX1_placesForKind_99 : decode cX1_placesForKind 99 = .ok (.iconst 2, 1) := by decide +kernel
theorem dX1_placesForKind_100 : decode cX1_placesForKind 100 = .ok (.if_icmp .eq 8, 3) := by decide +kernel
theorem dX1_placesForKind_103 : decode cX1_placesForKind 103 = .ok (.iload_n 1, 1) := by decide +kernel
theorem dX1_placesForKind_104 : decode cX1_placesForKind 104 = .ok (.iconst 4, 1) := by decide +kernel
theorem dX1_placesForKind_105 : decode cX1_placesForKind 105 = .ok (.if_icmp .ne 30, 3) := by decide +kernel
theorem dX1_placesForKind_108 : decode cX1_placesForKind 108 = .ok (.iload 6, 2) := by decide +kernel
theorem dX1_placesForKind_110 : decode cX1_placesForKind 110 = .ok (.iload 4, 2) := by decide +kernel
theorem dX1_placesForKind_112 : decode cX1_placesForKind 112 = .ok (.aload_n 0, 1) := by decide +kernel
theorem dX1_placesForKind_113 : decode cX1_placesForKind 113 = .ok (.getfield 12, 3) := by decide +kernel
theorem dX1_placesForKind_116 : decode cX1_placesForKind 116 = .ok (.iload_n 3, 1) := by decide +kernel
theorem dX1_placesForKind_117 : decode cX1_placesForKind 117 = .ok (.iconst 0, 1) := by decide +kernel
theorem dX1_placesForKind_118 : decode cX1_placesForKind 118 = .ok (.invokevirtual 134, 3) := by decide +kernel
theorem dX1_placesForKind_121 : decode cX1_placesForKind 121 = .ok (.aload_n 0, 1) := by decide +kernel
theorem dX1_placesForKind_122 : decode cX1_placesForKind 122 = .ok (.getfield 12, 3) := by decide +kernel
theorem dX1_placesForKind_125 : decode cX1_placesForKind 125 = .ok (.iload_n 3, 1) := by decide +kernel
theorem dX1_placesForKind_126 : decode cX1_placesForKind 126 = .ok (.iconst 0, 1) := by decide +kernel
theorem dX1_placesForKind_127 : decode cX1_placesForKind 127 = .ok (.invokevirtual 138, 3) := by decide +kernel
theorem dX1_placesForKind_130 : decode cX1_placesForKind 130 = .ok (.ior, 1) := by decide +kernel
theorem dX1_placesForKind_131 : decode cX1_placesForKind 131 = .ok (.iand, 1) := by decide +kernel
theorem dX1_placesForKind_132 : decode cX1_placesForKind 132 = .ok (.ior, 1) := by decide +kernel
theorem dX1_placesForKind_133 : decode cX1_placesForKind 133 = .ok (.istore 6, 2) := by decide +kernel
theorem dX1_placesForKind_135 : decode cX1_placesForKind 135 = .ok (.iload_n 1, 1) := by decide +kernel
theorem dX1_placesForKind_136 : decode cX1_placesForKind 136 = .ok (.iconst 4, 1) := by decide +kernel
theorem dX1_placesForKind_137 : decode cX1_placesForKind 137 = .ok (.if_icmp .ne 14, 3) := by decide +kernel
theorem dX1_placesForKind_140 : decode cX1_placesForKind 140 = .ok (.iload 6, 2) := by decide +kernel
theorem dX1_placesForKind_142 : decode cX1_placesForKind 142 = .ok (.iload 4, 2) := by decide +kernel
theorem dX1_placesForKind_144 : decode cX1_placesForKind 144 = .ok (.iload 5, 2) := by decide +kernel
theorem dX1_placesForKind_146 : decode cX1_placesForKind 146 = .ok (.iand, 1) := by decide +kernel
theorem dX1_placesForKind_147 : decode cX1_placesForKind 147 = .ok (.ior, 1) := by decide +kernel
theorem dX1_placesForKind_148 : decode cX1_placesForKind 148 = .ok (.goto 5, 3) := by decide +kernel
theorem dX1_placesForKind_151 : decode cX1_placesForKind 151 = .ok (.iload 6, 2) := by decide +kernel
theorem dX1_placesForKind_153 : decode cX1_placesForKind 153 = .ok (.ireturn, 1) := by decide +kernel
theorem dX1_isShut_0 : decode cX1_isShut 0 = .ok (.aload_n 0, 1) := by decide +kernel
theorem dX1_isShut_1 : decode cX1_isShut 1 = .ok (.invokevirtual 114, 3) := by decide +kernel
theorem dX1_isShut_4 : decode cX1_isShut 4 = .ok (.istore_n 1, 1) := by decide +kernel
theorem dX1_isShut_5 : decode cX1_isShut 5 = .ok (.aload_n 0, 1) := by decide +kernel
theorem dX1_isShut_6 : decode cX1_isShut 6 = .ok (.invokevirtual 117, 3) := by decide +kernel
theorem dX1_isShut_9 : decode cX1_isShut 9 = .ok (.istore_n 2, 1) := by decide +kernel
theorem dX1_isShut_10 : decode cX1_isShut 10 = .ok (.iconst 0, 1) := by decide +kernel
theorem dX1_isShut_11 : decode cX1_isShut 11 = .ok (.istore_n 3, 1) := by decide +kernel
theorem dX1_isShut_12 : decode cX1_isShut 12 = .ok (.iload_n 3, 1) := by decide +kernel
theorem dX1_isShut_13 : decode cX1_isShut 13 = .ok (.aload_n 0, 1) := by decide +kernel
theorem dX1_isShut_14 : decode cX1_isShut 14 = .ok (.getfield 50, 3) := by decide +kernel
theorem dX1_isShut_17 : decode cX1_isShut 17 = .ok (.if_icmp .ge 41, 3) := by decide +kernel
theorem dX1_isShut_20 : decode cX1_isShut 20 = .ok (.aload_n 0, 1) := by decide +kernel
theorem dX1_isShut_21 : decode cX1_isShut 21 = .ok (.getfield 20, 3) := by decide +kernel
theorem dX1_isShut_24 : decode cX1_isShut 24 = .ok (.iload_n 3, 1) := by decide +kernel
theorem dX1_isShut_25 : decode cX1_isShut 25 = .ok (.aaload, 1) := by decide +kernel
theorem dX1_isShut_26 : decode cX1_isShut 26 = .ok (.invokevirtual 87, 3) := by decide +kernel
theorem dX1_isShut_29 : decode cX1_isShut 29 = .ok (.ifCond .ne 23, 3) := by decide +kernel
theorem dX1_isShut_32 : decode cX1_isShut 32 = .ok (.aload_n 0, 1) := by decide +kernel
theorem dX1_isShut_33 : decode cX1_isShut 33 = .ok (.aload_n 0, 1) := by decide +kernel
theorem dX1_isShut_34 : decode cX1_isShut 34 = .ok (.getfield 20, 3) := by decide +kernel
theorem dX1_isShut_37 : decode cX1_isShut 37 = .ok (.iload_n 3, 1) := by decide +kernel
theorem dX1_isShut_38 : decode cX1_isShut 38 = .ok (.aaload, 1) := by decide +kernel
theorem dX1_isShut_39 : decode cX1_isShut 39 = .ok (.getfield 111, 3) := by decide +kernel
theorem dX1_isShut_42 : decode cX1_isShut 42 = .ok (.iload_n 1, 1) := by decide +kernel
theorem dX1_isShut_43 : decode cX1_isShut 43 = .ok (.iload_n 2, 1) := by decide +kernel
theorem dX1_isShut_44 : decode cX1_isShut 44 = .ok (.invokevirtual 120, 3) := by decide +kernel
theorem dX1_isShut_47 : decode cX1_isShut 47 = .ok (.ifCond .eq 5, 3) := by decide +kernel
theorem dX1_isShut_50 : decode cX1_isShut 50 = .ok (.iconst 0, 1) := by decide +kernel
theorem dX1_isShut_51 : decode cX1_isShut 51 = .ok (.ireturn, 1) := by decide +kernel
theorem dX1_isShut_52 : decode cX1_isShut 52 = .ok (.iinc 3 1, 3) := by decide +kernel
theorem dX1_isShut_55 : decode cX1_isShut 55 = .ok (.goto (-43), 3) := by decide +kernel
theorem dX1_isShut_58 : decode cX1_isShut 58 = .ok (.iconst 1, 1) := by decide +kernel
theorem dX1_isShut_59 : decode cX1_isShut 59 = .ok (.ireturn, 1) := by decide +kernel
theorem dX1_seat_0 : decode cX1_seat 0 = .ok (.aload_n 1, 1) := by decide +kernel
theorem dX1_seat_1 : decode cX1_seat 1 = .ok (.aload_n 0, 1) := by decide +kernel
theorem dX1_seat_2 : decode cX1_seat 2 = .ok (.iload_n 2, 1) := by decide +kernel
theorem dX1_seat_3 : decode cX1_seat 3 = .ok (.aload_n 1, 1) := by decide +kernel
theorem dX1_seat_4 : decode cX1_seat 4 = .ok (.getfield 144, 3) := by decide +kernel
theorem dX1_seat_7 : decode cX1_seat 7 = .ok (.invokevirtual 147, 3) := by decide +kernel
theorem dX1_seat_10 : decode cX1_seat 10 = .ok (.invokevirtual 150, 3) := by decide +kernel
theorem dX1_seat_13 : decode cX1_seat 13 = .ok (.istore_n 3, 1) := by decide +kernel
theorem dX1_seat_14 : decode cX1_seat 14 = .ok (.aload_n 1, 1) := by decide +kernel
theorem dX1_seat_15 : decode cX1_seat 15 = .ok (.iload_n 2, 1) := by decide +kernel
theorem dX1_seat_16 : decode cX1_seat 16 = .ok (.putfield 79, 3) := by decide +kernel
theorem dX1_seat_19 : decode cX1_seat 19 = .ok (.aload_n 1, 1) := by decide +kernel
theorem dX1_seat_20 : decode cX1_seat 20 = .ok (.dup, 1) := by decide +kernel
theorem dX1_seat_21 : decode cX1_seat 21 = .ok (.getfield 144, 3) := by decide +kernel
theorem dX1_seat_24 : decode cX1_seat 24 = .ok (.iconst 1, 1) := by decide +kernel
theorem dX1_seat_25 : decode cX1_seat 25 = .ok (.iadd, 1) := by decide +kernel
theorem dX1_seat_26 : decode cX1_seat 26 = .ok (.putfield 144, 3) := by decide +kernel
theorem dX1_seat_29 : decode cX1_seat 29 = .ok (.aload_n 1, 1) := by decide +kernel
theorem dX1_seat_30 : decode cX1_seat 30 = .ok (.aload_n 1, 1) := by decide +kernel
theorem dX1_seat_31 : decode cX1_seat 31 = .ok (.getfield 153, 3) := by decide +kernel
theorem dX1_seat_34 : decode cX1_seat 34 = .ok (.iload_n 3, 1) := by decide +kernel
theorem dX1_seat_35 : decode cX1_seat 35 = .ok (.isub, 1) := by decide +kernel
theorem dX1_seat_36 : decode cX1_seat 36 = .ok (.sipush (-9999), 3) := by decide +kernel
theorem dX1_seat_39 : decode cX1_seat 39 = .ok (.sipush 9999, 3) := by decide +kernel
theorem dX1_seat_42 : decode cX1_seat 42 = .ok (.invokestatic 156, 3) := by decide +kernel
theorem dX1_seat_45 : decode cX1_seat 45 = .ok (.putfield 153, 3) := by decide +kernel
theorem dX1_seat_48 : decode cX1_seat 48 = .ok (.aload_n 0, 1) := by decide +kernel
theorem dX1_seat_49 : decode cX1_seat 49 = .ok (.dup, 1) := by decide +kernel
theorem dX1_seat_50 : decode cX1_seat 50 = .ok (.getfield 62, 3) := by decide +kernel
theorem dX1_seat_53 : decode cX1_seat 53 = .ok (.iload_n 3, 1) := by decide +kernel
theorem dX1_seat_54 : decode cX1_seat 54 = .ok (.iadd, 1) := by decide +kernel
theorem dX1_seat_55 : decode cX1_seat 55 = .ok (.putfield 62, 3) := by decide +kernel
theorem dX1_seat_58 : decode cX1_seat 58 = .ok (.iload_n 3, 1) := by decide +kernel
theorem dX1_seat_59 : decode cX1_seat 59 = .ok (.ireturn, 1) := by decide +kernel
theorem dX1_fare_0 : decode cX1_fare 0 = .ok (.aload_n 0, 1) := by decide +kernel
theorem dX1_fare_1 : decode cX1_fare 1 = .ok (.getfield 28, 3) := by decide +kernel
theorem dX1_fare_4 : decode cX1_fare 4 = .ok (.iconst 0, 1) := by decide +kernel
theorem dX1_fare_5 : decode cX1_fare 5 = .ok (.iaload, 1) := by decide +kernel
theorem dX1_fare_6 : decode cX1_fare 6 = .ok (.istore_n 3, 1) := by decide +kernel
theorem dX1_fare_7 : decode cX1_fare 7 = .ok (.aload_n 0, 1) := by decide +kernel
theorem dX1_fare_8 : decode cX1_fare 8 = .ok (.getfield 24, 3) := by decide +kernel
theorem dX1_fare_11 : decode cX1_fare 11 = .ok (.iload_n 1, 1) := by decide +kernel
theorem dX1_fare_12 : decode cX1_fare 12 = .ok (.iaload, 1) := by decide +kernel
theorem dX1_fare_13 : decode cX1_fare 13 = .ok (.istore 4, 2) := by decide +kernel
theorem dX1_fare_15 : decode cX1_fare 15 = .ok (.aload_n 0, 1) := by decide +kernel
theorem dX1_fare_16 : decode cX1_fare 16 = .ok (.iconst 0, 1) := by decide +kernel
theorem dX1_fare_17 : decode cX1_fare 17 = .ok (.invokevirtual 159, 3) := by decide +kernel
theorem dX1_fare_20 : decode cX1_fare 20 = .ok (.astore 5, 2) := by decide +kernel
theorem dX1_fare_22 : decode cX1_fare 22 = .ok (.aload 5, 2) := by decide +kernel
theorem dX1_fare_24 : decode cX1_fare 24 = .ok (.ifnonnull 10, 3) := by decide +kernel
theorem dX1_fare_27 : decode cX1_fare 27 = .ok (.iload_n 3, 1) := by decide +kernel
theorem dX1_fare_28 : decode cX1_fare 28 = .ok (.iload 4, 2) := by decide +kernel
theorem dX1_fare_30 : decode cX1_fare 30 = .ok (.iadd, 1) := by decide +kernel
theorem dX1_fare_31 : decode cX1_fare 31 = .ok (.goto 12, 3) := by decide +kernel
theorem dX1_fare_34 : decode cX1_fare 34 = .ok (.aload 5, 2) := by decide +kernel
theorem dX1_fare_36 : decode cX1_fare 36 = .ok (.iload_n 3, 1) := by decide +kernel
theorem dX1_fare_37 : decode cX1_fare 37 = .ok (.iload 4, 2) := by decide +kernel
theorem dX1_fare_39 : decode cX1_fare 39 = .ok (.iload_n 2, 1) := by decide +kernel
theorem dX1_fare_40 : decode cX1_fare 40 = .ok (.invokevirtual 163, 3) := by decide +kernel
theorem dX1_fare_43 : decode cX1_fare 43 = .ok (.sipush (-999), 3) := by decide +kernel
theorem dX1_fare_46 : decode cX1_fare 46 = .ok (.sipush 999, 3) := by decide +kernel
theorem dX1_fare_49 : decode cX1_fare 49 = .ok (.invokestatic 156, 3) := by decide +kernel
theorem dX1_fare_52 : decode cX1_fare 52 = .ok (.ireturn, 1) := by decide +kernel
theorem dX1_lawOf_0 : decode cX1_lawOf 0 = .ok (.aload_n 0, 1) := by decide +kernel
theorem dX1_lawOf_1 : decode cX1_lawOf 1 = .ok (.getfield 42, 3) := by decide +kernel
theorem dX1_lawOf_4 : decode cX1_lawOf 4 = .ok (.iload_n 1, 1) := by decide +kernel
theorem dX1_lawOf_5 : decode cX1_lawOf 5 = .ok (.iaload, 1) := by decide +kernel
theorem dX1_lawOf_6 : decode cX1_lawOf 6 = .ok (.istore_n 2, 1) := by decide +kernel
theorem dX1_lawOf_7 : decode cX1_lawOf 7 = .ok (.iload_n 2, 1) := by decide +kernel
theorem dX1_lawOf_8 : decode cX1_lawOf 8 = .ok (.ifCond .lt 20, 3) := by decide +kernel
theorem dX1_lawOf_11 : decode cX1_lawOf 11 = .ok (.iload_n 2, 1) := by decide +kernel
theorem dX1_lawOf_12 : decode cX1_lawOf 12 = .ok (.aload_n 0, 1) := by decide +kernel
theorem dX1_lawOf_13 : decode cX1_lawOf 13 = .ok (.getfield 68, 3) := by decide +kernel
theorem dX1_lawOf_16 : decode cX1_lawOf 16 = .ok (.if_icmp .ge 12, 3) := by decide +kernel
theorem dX1_lawOf_19 : decode cX1_lawOf 19 = .ok (.aload_n 0, 1) := by decide +kernel
theorem dX1_lawOf_20 : decode cX1_lawOf 20 = .ok (.getfield 37, 3) := by decide +kernel
theorem dX1_lawOf_23 : decode cX1_lawOf 23 = .ok (.iload_n 2, 1) := by decide +kernel
theorem dX1_lawOf_24 : decode cX1_lawOf 24 = .ok (.aaload, 1) := by decide +kernel
theorem dX1_lawOf_25 : decode cX1_lawOf 25 = .ok (.goto 4, 3) := by decide +kernel
theorem dX1_lawOf_28 : decode cX1_lawOf 28 = .ok (.aconst_null, 1) := by decide +kernel
theorem dX1_lawOf_29 : decode cX1_lawOf 29 = .ok (.areturn, 1) := by decide +kernel
theorem dX1_enact_0 : decode cX1_enact 0 = .ok (.aload_n 0, 1) := by decide +kernel
theorem dX1_enact_1 : decode cX1_enact 1 = .ok (.getfield 68, 3) := by decide +kernel
theorem dX1_enact_4 : decode cX1_enact 4 = .ok (.bipush 14, 2) := by decide +kernel
theorem dX1_enact_6 : decode cX1_enact 6 = .ok (.if_icmp .lt 6, 3) := by decide +kernel
theorem dX1_enact_9 : decode cX1_enact 9 = .ok (.ldc 82, 2) := by decide +kernel
theorem dX1_enact_11 : decode cX1_enact 11 = .ok (.ireturn, 1) := by decide +kernel
theorem dX1_enact_12 : decode cX1_enact 12 = .ok (.aload_n 0, 1) := by decide +kernel
theorem dX1_enact_13 : decode cX1_enact 13 = .ok (.getfield 37, 3) := by decide +kernel
theorem dX1_enact_16 : decode cX1_enact 16 = .ok (.aload_n 0, 1) := by decide +kernel
theorem dX1_enact_17 : decode cX1_enact 17 = .ok (.getfield 68, 3) := by decide +kernel
theorem dX1_enact_20 : decode cX1_enact 20 = .ok (.aload_n 1, 1) := by decide +kernel
theorem dX1_enact_21 : decode cX1_enact 21 = .ok (.aastore, 1) := by decide +kernel
theorem dX1_enact_22 : decode cX1_enact 22 = .ok (.aload_n 0, 1) := by decide +kernel
theorem dX1_enact_23 : decode cX1_enact 23 = .ok (.getfield 42, 3) := by decide +kernel
theorem dX1_enact_26 : decode cX1_enact 26 = .ok (.aload_n 1, 1) := by decide +kernel
theorem dX1_enact_27 : decode cX1_enact 27 = .ok (.getfield 166, 3) := by decide +kernel
theorem dX1_enact_30 : decode cX1_enact 30 = .ok (.aload_n 0, 1) := by decide +kernel
theorem dX1_enact_31 : decode cX1_enact 31 = .ok (.getfield 68, 3) := by decide +kernel
theorem dX1_enact_34 : decode cX1_enact 34 = .ok (.iastore, 1) := by decide +kernel
theorem dX1_enact_35 : decode cX1_enact 35 = .ok (.aload_n 0, 1) := by decide +kernel
theorem dX1_enact_36 : decode cX1_enact 36 = .ok (.dup, 1) := by decide +kernel
theorem dX1_enact_37 : decode cX1_enact 37 = .ok (.getfield 68, 3) := by decide +kernel
theorem dX1_enact_40 : decode cX1_enact 40 = .ok (.iconst 1, 1) := by decide +kernel
theorem dX1_enact_41 : decode cX1_enact 41 = .ok (.iadd, 1) := by decide +kernel
theorem dX1_enact_42 : decode cX1_enact 42 = .ok (.putfield 68, 3) := by decide +kernel
theorem dX1_enact_45 : decode cX1_enact 45 = .ok (.aload_n 0, 1) := by decide +kernel
theorem dX1_enact_46 : decode cX1_enact 46 = .ok (.getfield 68, 3) := by decide +kernel
theorem dX1_enact_49 : decode cX1_enact 49 = .ok (.iconst 1, 1) := by decide +kernel
theorem dX1_enact_50 : decode cX1_enact 50 = .ok (.isub, 1) := by decide +kernel
theorem dX1_enact_51 : decode cX1_enact 51 = .ok (.ireturn, 1) := by decide +kernel
theorem dX1_draw_0 : decode cX1_draw 0 = .ok (.aload_n 0, 1) := by decide +kernel
theorem dX1_draw_1 : decode cX1_draw 1 = .ok (.aload_n 0, 1) := by decide +kernel
theorem dX1_draw_2 : decode cX1_draw 2 = .ok (.getfield 31, 3) := by decide +kernel
theorem dX1_draw_5 : decode cX1_draw 5 = .ok (.ldc 169, 2) := by decide +kernel
theorem dX1_draw_7 : decode cX1_draw 7 = .ok (.imul, 1) := by decide +kernel
theorem dX1_draw_8 : decode cX1_draw 8 = .ok (.sipush 12345, 3) := by decide +kernel
theorem dX1_draw_11 : decode cX1_draw 11 = .ok (.iadd, 1) := by decide +kernel
theorem dX1_draw_12 : decode cX1_draw 12 = .ok (.putfield 31, 3) := by decide +kernel
theorem dX1_draw_15 : decode cX1_draw 15 = .ok (.aload_n 0, 1) := by decide +kernel
theorem dX1_draw_16 : decode cX1_draw 16 = .ok (.getfield 31, 3) := by decide +kernel
theorem dX1_draw_19 : decode cX1_draw 19 = .ok (.bipush 8, 2) := by decide +kernel
theorem dX1_draw_21 : decode cX1_draw 21 = .ok (.iushr, 1) := by decide +kernel
theorem dX1_draw_22 : decode cX1_draw 22 = .ok (.ireturn, 1) := by decide +kernel
theorem dX1_pass_0 : decode cX1_pass 0 = .ok (.iconst 0, 1) := by decide +kernel
theorem dX1_pass_1 : decode cX1_pass 1 = .ok (.istore_n 2, 1) := by decide +kernel
theorem dX1_pass_2 : decode cX1_pass 2 = .ok (.iconst 0, 1) := by decide +kernel
theorem dX1_pass_3 : decode cX1_pass 3 = .ok (.istore_n 3, 1) := by decide +kernel
theorem dX1_pass_4 : decode cX1_pass 4 = .ok (.iload_n 3, 1) := by decide +kernel
theorem dX1_pass_5 : decode cX1_pass 5 = .ok (.iload_n 1, 1) := by decide +kernel
theorem dX1_pass_6 : decode cX1_pass 6 = .ok (.if_icmp .ge 19, 3) := by decide +kernel
theorem dX1_pass_9 : decode cX1_pass 9 = .ok (.aload_n 0, 1) := by decide +kernel
theorem dX1_pass_10 : decode cX1_pass 10 = .ok (.invokevirtual 170, 3) := by decide +kernel
theorem dX1_pass_13 : decode cX1_pass 13 = .ok (.ifCond .eq 6, 3) := by decide +kernel
theorem dX1_pass_16 : decode cX1_pass 16 = .ok (.iinc 2 1, 3) := by decide +kernel
theorem dX1_pass_19 : decode cX1_pass 19 = .ok (.iinc 3 1, 3) := by decide +kernel
theorem dX1_pass_22 : decode cX1_pass 22 = .ok (.goto (-18), 3) := by decide +kernel
theorem dX1_pass_25 : decode cX1_pass 25 = .ok (.iload_n 2, 1) := by decide +kernel
theorem dX1_pass_26 : decode cX1_pass 26 = .ok (.ireturn, 1) := by decide +kernel
theorem dX1_passOne_0 : decode cX1_passOne 0 = .ok (.aload_n 0, 1) := by decide +kernel
theorem dX1_passOne_1 : decode cX1_passOne 1 = .ok (.invokevirtual 173, 3) := by decide +kernel
theorem dX1_passOne_4 : decode cX1_passOne 4 = .ok (.bipush 100, 2) := by decide +kernel
theorem dX1_passOne_6 : decode cX1_passOne 6 = .ok (.irem, 1) := by decide +kernel
theorem dX1_passOne_7 : decode cX1_passOne 7 = .ok (.aload_n 0, 1) := by decide +kernel
theorem dX1_passOne_8 : decode cX1_passOne 8 = .ok (.getfield 28, 3) := by decide +kernel
theorem dX1_passOne_11 : decode cX1_passOne 11 = .ok (.iconst 2, 1) := by decide +kernel
theorem dX1_passOne_12 : decode cX1_passOne 12 = .ok (.iaload, 1) := by decide +kernel
theorem dX1_passOne_13 : decode cX1_passOne 13 = .ok (.if_icmp .ge 14, 3) := by decide +kernel
theorem dX1_passOne_16 : decode cX1_passOne 16 = .ok (.aload_n 0, 1) := by decide +kernel
theorem dX1_passOne_17 : decode cX1_passOne 17 = .ok (.invokevirtual 176, 3) := by decide +kernel
theorem dX1_passOne_20 : decode cX1_passOne 20 = .ok (.ifCond .eq 7, 3) := by decide +kernel
theorem dX1_passOne_23 : decode cX1_passOne 23 = .ok (.iconst 1, 1) := by decide +kernel
theorem dX1_passOne_24 : decode cX1_passOne 24 = .ok (.goto 4, 3) := by decide +kernel
theorem dX1_passOne_27 : decode cX1_passOne 27 = .ok (.iconst 0, 1) := by decide +kernel
theorem dX1_passOne_28 : decode cX1_passOne 28 = .ok (.istore_n 1, 1) := by decide +kernel
theorem dX1_passOne_29 : decode cX1_passOne 29 = .ok (.aload_n 0, 1) := by decide +kernel
theorem dX1_passOne_30 : decode cX1_passOne 30 = .ok (.invokevirtual 173, 3) := by decide +kernel
theorem dX1_passOne_33 : decode cX1_passOne 33 = .ok (.bipush 100, 2) := by decide +kernel
theorem dX1_passOne_35 : decode cX1_passOne 35 = .ok (.irem, 1) := by decide +kernel
theorem dX1_passOne_36 : decode cX1_passOne 36 = .ok (.aload_n 0, 1) := by decide +kernel
theorem dX1_passOne_37 : decode cX1_passOne 37 = .ok (.getfield 28, 3) := by decide +kernel
theorem dX1_passOne_40 : decode cX1_passOne 40 = .ok (.iconst 3, 1) := by decide +kernel
theorem dX1_passOne_41 : decode cX1_passOne 41 = .ok (.iaload, 1) := by decide +kernel
theorem dX1_passOne_42 : decode cX1_passOne 42 = .ok (.if_icmp .ge 7, 3) := by decide +kernel
theorem dX1_passOne_45 : decode cX1_passOne 45 = .ok (.aload_n 0, 1) := by decide +kernel
theorem dX1_passOne_46 : decode cX1_passOne 46 = .ok (.invokevirtual 179, 3) := by decide +kernel
theorem dX1_passOne_49 : decode cX1_passOne 49 = .ok (.aload_n 0, 1) := by decide +kernel
theorem dX1_passOne_50 : decode cX1_passOne 50 = .ok (.dup, 1) := by decide +kernel
theorem dX1_passOne_51 : decode cX1_passOne 51 = .ok (.getfield 65, 3) := by decide +kernel
theorem dX1_passOne_54 : decode cX1_passOne 54 = .ok (.iconst 1, 1) := by decide +kernel
theorem dX1_passOne_55 : decode cX1_passOne 55 = .ok (.iadd, 1) := by decide +kernel
theorem dX1_passOne_56 : decode cX1_passOne 56 = .ok (.putfield 65, 3) := by decide +kernel
theorem dX1_passOne_59 : decode cX1_passOne 59 = .ok (.iload_n 1, 1) := by decide +kernel
theorem dX1_passOne_60 : decode cX1_passOne 60 = .ok (.ireturn, 1) := by decide +kernel
theorem dX1_oneComes_0 : decode cX1_oneComes 0 = .ok (.iconst 0, 1) := by decide +kernel
theorem dX1_oneComes_1 : decode cX1_oneComes 1 = .ok (.istore_n 1, 1) := by decide +kernel
theorem dX1_oneComes_2 : decode cX1_oneComes 2 = .ok (.iload_n 1, 1) := by decide +kernel
theorem dX1_oneComes_3 : decode cX1_oneComes 3 = .ok (.aload_n 0, 1) := by decide +kernel
theorem dX1_oneComes_4 : decode cX1_oneComes 4 = .ok (.getfield 50, 3) := by decide +kernel
theorem dX1_oneComes_7 : decode cX1_oneComes 7 = .ok (.if_icmp .ge 58, 3) := by decide +kernel
theorem dX1_oneComes_10 : decode cX1_oneComes 10 = .ok (.aload_n 0, 1) := by decide +kernel
theorem dX1_oneComes_11 : decode cX1_oneComes 11 = .ok (.getfield 20, 3) := by decide +kernel
theorem dX1_oneComes_14 : decode cX1_oneComes 14 = .ok (.iload_n 1, 1) := by decide +kernel
theorem dX1_oneComes_15 : decode cX1_oneComes 15 = .ok (.aaload, 1) := by decide +kernel
theorem dX1_oneComes_16 : decode cX1_oneComes 16 = .ok (.invokevirtual 87, 3) := by decide +kernel
theorem dX1_oneComes_19 : decode cX1_oneComes 19 = .ok (.ifCond .ne 40, 3) := by decide +kernel
theorem dX1_oneComes_22 : decode cX1_oneComes 22 = .ok (.aload_n 0, 1) := by decide +kernel
theorem dX1_oneComes_23 : decode cX1_oneComes 23 = .ok (.aload_n 0, 1) := by decide +kernel
theorem dX1_oneComes_24 : decode cX1_oneComes 24 = .ok (.aload_n 0, 1) := by decide +kernel
theorem dX1_oneComes_25 : decode cX1_oneComes 25 = .ok (.getfield 20, 3) := by decide +kernel
theorem dX1_oneComes_28 : decode cX1_oneComes 28 = .ok (.iload_n 1, 1) := by decide +kernel
theorem dX1_oneComes_29 : decode cX1_oneComes 29 = .ok (.aaload, 1) := by decide +kernel
theorem dX1_oneComes_30 : decode cX1_oneComes 30 = .ok (.invokevirtual 182, 3) := by decide +kernel
theorem dX1_oneComes_33 : decode cX1_oneComes 33 = .ok (.invokevirtual 185, 3) := by decide +kernel
theorem dX1_oneComes_36 : decode cX1_oneComes 36 = .ok (.istore_n 2, 1) := by decide +kernel
theorem dX1_oneComes_37 : decode cX1_oneComes 37 = .ok (.iload_n 2, 1) := by decide +kernel
theorem dX1_oneComes_38 : decode cX1_oneComes 38 = .ok (.ldc 41, 2) := by decide +kernel
theorem dX1_oneComes_40 : decode cX1_oneComes 40 = .ok (.if_icmp .ne 5, 3) := by decide +kernel
theorem dX1_oneComes_43 : decode cX1_oneComes 43 = .ok (.iconst 0, 1) := by decide +kernel
theorem dX1_oneComes_44 : decode cX1_oneComes 44 = .ok (.ireturn, 1) := by decide +kernel
theorem dX1_oneComes_45 : decode cX1_oneComes 45 = .ok (.aload_n 0, 1) := by decide +kernel
theorem dX1_oneComes_46 : decode cX1_oneComes 46 = .ok (.aload_n 0, 1) := by decide +kernel
theorem dX1_oneComes_47 : decode cX1_oneComes 47 = .ok (.getfield 20, 3) := by decide +kernel
theorem dX1_oneComes_50 : decode cX1_oneComes 50 = .ok (.iload_n 1, 1) := by decide +kernel
theorem dX1_oneComes_51 : decode cX1_oneComes 51 = .ok (.aaload, 1) := by decide +kernel
theorem dX1_oneComes_52 : decode cX1_oneComes 52 = .ok (.iload_n 2, 1) := by decide +kernel
theorem dX1_oneComes_53 : decode cX1_oneComes 53 = .ok (.invokevirtual 188, 3) := by decide +kernel
theorem dX1_oneComes_56 : decode cX1_oneComes 56 = .ok (.pop, 1) := by decide +kernel
theorem dX1_oneComes_57 : decode cX1_oneComes 57 = .ok (.iconst 1, 1) := by decide +kernel
theorem dX1_oneComes_58 : decode cX1_oneComes 58 = .ok (.ireturn, 1) := by decide +kernel
theorem dX1_oneComes_59 : decode cX1_oneComes 59 = .ok (.iinc 1 1, 3) := by decide +kernel
theorem dX1_oneComes_62 : decode cX1_oneComes 62 = .ok (.goto (-60), 3) := by decide +kernel
theorem dX1_oneComes_65 : decode cX1_oneComes 65 = .ok (.iconst 0, 1) := by decide +kernel
theorem dX1_oneComes_66 : decode cX1_oneComes 66 = .ok (.ireturn, 1) := by decide +kernel
theorem dX1_choose_0 : decode cX1_choose 0 = .ok (.iload_n 1, 1) := by decide +kernel
theorem dX1_choose_1 : decode cX1_choose 1 = .ok (.invokestatic 105, 3) := by decide +kernel
theorem dX1_choose_4 : decode cX1_choose 4 = .ok (.istore_n 2, 1) := by decide +kernel
theorem dX1_choose_5 : decode cX1_choose 5 = .ok (.iload_n 2, 1) := by decide +kernel
theorem dX1_choose_6 : decode cX1_choose 6 = .ok (.ifCond .ne 6, 3) := by decide +kernel
theorem dX1_choose_9 : decode cX1_choose 9 = .ok (.ldc 41, 2) := by decide +kernel
theorem dX1_choose_11 : decode cX1_choose 11 = .ok (.ireturn, 1) := by decide +kernel
theorem dX1_choose_12 : decode cX1_choose 12 = .ok (.aload_n 0, 1) := by decide +kernel
theorem dX1_choose_13 : decode cX1_choose 13 = .ok (.getfield 28, 3) := by decide +kernel
theorem dX1_choose_16 : decode cX1_choose 16 = .ok (.iconst 1, 1) := by decide +kernel
theorem dX1_choose_17 : decode cX1_choose 17 = .ok (.iaload, 1) := by decide +kernel
theorem dX1_choose_18 : decode cX1_choose 18 = .ok (.ifCond .ne 15, 3) := by decide +kernel
theorem dX1_choose_21 : decode cX1_choose 21 = .ok (.aload_n 0, 1) := by decide +kernel
theorem dX1_choose_22 : decode cX1_choose 22 = .ok (.iload_n 1, 1) := by decide +kernel
theorem dX1_choose_23 : decode cX1_choose 23 = .ok (.aload_n 0, 1) := by decide +kernel
theorem dX1_choose_24 : decode cX1_choose 24 = .ok (.invokevirtual 173, 3) := by decide +kernel
theorem dX1_choose_27 : decode cX1_choose 27 = .ok (.iload_n 2, 1) := by decide +kernel
theorem dX1_choose_28 : decode cX1_choose 28 = .ok (.irem, 1) := by decide +kernel
theorem dX1_choose_29 : decode cX1_choose 29 = .ok (.invokevirtual 192, 3) := by decide +kernel
theorem dX1_choose_32 : decode cX1_choose 32 = .ok (.ireturn, 1) := by decide +kernel
theorem dX1_choose_33 : decode cX1_choose 33 = .ok (.iload_n 1, 1) := by decide +kernel
theorem dX1_choose_34 : decode cX1_choose 34 = .ok (.invokestatic 195, 3) := by decide +kernel
theorem dX1_choose_37 : decode cX1_choose 37 = .ok (.istore_n 3, 1) := by decide +kernel
theorem dX1_choose_38 : decode cX1_choose 38 = .ok (.aload_n 0, 1) := by decide +kernel
theorem dX1_choose_39 : decode cX1_choose 39 = .ok (.getfield 28, 3) := by decide +kernel
theorem dX1_choose_42 : decode cX1_choose 42 = .ok (.iconst 1, 1) := by decide +kernel
theorem dX1_choose_43 : decode cX1_choose 43 = .ok (.iaload, 1) := by decide +kernel
theorem dX1_choose_44 : decode cX1_choose 44 = .ok (.iconst 1, 1) := by decide +kernel
theorem dX1_choose_45 : decode cX1_choose 45 = .ok (.if_icmp .ne 5, 3) := by decide +kernel
theorem dX1_choose_48 : decode cX1_choose 48 = .ok (.iload_n 3, 1) := by decide +kernel
theorem dX1_choose_49 : decode cX1_choose 49 = .ok (.ireturn, 1) := by decide +kernel
theorem dX1_choose_50 : decode cX1_choose 50 = .ok (.iload_n 3, 1) := by decide +kernel
theorem dX1_choose_51 : decode cX1_choose 51 = .ok (.iconst 1, 1) := by decide +kernel
theorem dX1_choose_52 : decode cX1_choose 52 = .ok (.iadd, 1) := by decide +kernel
theorem dX1_choose_53 : decode cX1_choose 53 = .ok (.istore 4, 2) := by decide +kernel
theorem dX1_choose_55 : decode cX1_choose 55 = .ok (.iload 4, 2) := by decide +kernel
theorem dX1_choose_57 : decode cX1_choose 57 = .ok (.aload_n 0, 1) := by decide +kernel
theorem dX1_choose_58 : decode cX1_choose 58 = .ok (.getfield 12, 3) := by decide +kernel
theorem dX1_choose_61 : decode cX1_choose 61 = .ok (.getfield 95, 3) := by decide +kernel
theorem dX1_choose_64 : decode cX1_choose 64 = .ok (.if_icmp .ge 37, 3) := by decide +kernel
theorem dX1_choose_67 : decode cX1_choose 67 = .ok (.iload_n 1, 1) := by decide +kernel
theorem dX1_choose_68 : decode cX1_choose 68 = .ok (.iload 4, 2) := by decide +kernel
theorem dX1_choose_70 : decode cX1_choose 70 = .ok (.invokestatic 198, 3) := by decide +kernel
theorem dX1_choose_73 : decode cX1_choose 73 = .ok (.ifCond .eq 22, 3) := by decide +kernel
theorem dX1_choose_76 : decode cX1_choose 76 = .ok (.aload_n 0, 1) := by decide +kernel
theorem dX1_choose_77 : decode cX1_choose 77 = .ok (.getfield 24, 3) := by decide +kernel
theorem dX1_choose_80 : decode cX1_choose 80 = .ok (.iload 4, 2) := by decide +kernel
theorem dX1_choose_82 : decode cX1_choose 82 = .ok (.iaload, 1) := by decide +kernel
theorem dX1_choose_83 : decode cX1_choose 83 = .ok (.aload_n 0, 1) := by decide +kernel
theorem dX1_choose_84 : decode cX1_choose 84 = .ok (.getfield 24, 3) := by decide +kernel
theorem dX1_choose_87 : decode cX1_choose 87 = .ok (.iload_n 3, 1) := by decide +kernel
theorem dX1_choose_88 : decode cX1_choose 88 = .ok (.iaload, 1) := by decide +kernel
theorem dX1_choose_89 : decode cX1_choose 89 = .ok (.if_icmp .le 6, 3) := by decide +kernel
theorem dX1_choose_92 : decode cX1_choose 92 = .ok (.iload 4, 2) := by decide +kernel
theorem dX1_choose_94 : decode cX1_choose 94 = .ok (.istore_n 3, 1) := by decide +kernel
theorem dX1_choose_95 : decode cX1_choose 95 = .ok (.iinc 4 1, 3) := by decide +kernel
theorem dX1_choose_98 : decode cX1_choose 98 = .ok (.goto (-43), 3) := by decide +kernel
theorem dX1_choose_101 : decode cX1_choose 101 = .ok (.iload_n 3, 1) := by decide +kernel
theorem dX1_choose_102 : decode cX1_choose 102 = .ok (.ireturn, 1) := by decide +kernel
theorem dX1_nthOf_0 : decode cX1_nthOf 0 = .ok (.iconst 0, 1) := by decide +kernel
theorem dX1_nthOf_1 : decode cX1_nthOf 1 = .ok (.istore_n 3, 1) := by decide +kernel
theorem dX1_nthOf_2 : decode cX1_nthOf 2 = .ok (.iconst 0, 1) := by decide +kernel
theorem dX1_nthOf_3 : decode cX1_nthOf 3 = .ok (.istore 4, 2) := by decide +kernel
theorem dX1_nthOf_5 : decode cX1_nthOf 5 = .ok (.iload 4, 2) := by decide +kernel
theorem dX1_nthOf_7 : decode cX1_nthOf 7 = .ok (.aload_n 0, 1) := by decide +kernel
theorem dX1_nthOf_8 : decode cX1_nthOf 8 = .ok (.getfield 12, 3) := by decide +kernel
theorem dX1_nthOf_11 : decode cX1_nthOf 11 = .ok (.getfield 95, 3) := by decide +kernel
theorem dX1_nthOf_14 : decode cX1_nthOf 14 = .ok (.if_icmp .ge 29, 3) := by decide +kernel
theorem dX1_nthOf_17 : decode cX1_nthOf 17 = .ok (.iload_n 1, 1) := by decide +kernel
theorem dX1_nthOf_18 : decode cX1_nthOf 18 = .ok (.iload 4, 2) := by decide +kernel
theorem dX1_nthOf_20 : decode cX1_nthOf 20 = .ok (.invokestatic 198, 3) := by decide +kernel
theorem dX1_nthOf_23 : decode cX1_nthOf 23 = .ok (.ifCond .eq 14, 3) := by decide +kernel
theorem dX1_nthOf_26 : decode cX1_nthOf 26 = .ok (.iload_n 3, 1) := by decide +kernel
theorem dX1_nthOf_27 : decode cX1_nthOf 27 = .ok (.iload_n 2, 1) := by decide +kernel
theorem dX1_nthOf_28 : decode cX1_nthOf 28 = .ok (.if_icmp .ne 6, 3) := by decide +kernel
theorem dX1_nthOf_31 : decode cX1_nthOf 31 = .ok (.iload 4, 2) := by decide +kernel
theorem dX1_nthOf_33 : decode cX1_nthOf 33 = .ok (.ireturn, 1) := by decide +kernel
theorem dX1_nthOf_34 : decode cX1_nthOf 34 = .ok (.iinc 3 1, 3) := by decide +kernel
theorem dX1_nthOf_37 : decode cX1_nthOf 37 = .ok (.iinc 4 1, 3) := by decide +kernel
theorem dX1_nthOf_40 : decode cX1_nthOf 40 = .ok (.goto (-35), 3) := by decide +kernel
theorem dX1_nthOf_43 : decode cX1_nthOf 43 = .ok (.ldc 41, 2) := by decide +kernel
theorem dX1_nthOf_45 : decode cX1_nthOf 45 = .ok (.ireturn, 1) := by decide +kernel
theorem dX1_oneRises_0 : decode cX1_oneRises 0 = .ok (.aload_n 0, 1) := by decide +kernel
theorem dX1_oneRises_1 : decode cX1_oneRises 1 = .ok (.getfield 50, 3) := by decide +kernel
theorem dX1_oneRises_4 : decode cX1_oneRises 4 = .ok (.ifCond .le 21, 3) := by decide +kernel
theorem dX1_oneRises_7 : decode cX1_oneRises 7 = .ok (.aload_n 0, 1) := by decide +kernel
theorem dX1_oneRises_8 : decode cX1_oneRises 8 = .ok (.getfield 20, 3) := by decide +kernel
theorem dX1_oneRises_11 : decode cX1_oneRises 11 = .ok (.aload_n 0, 1) := by decide +kernel
theorem dX1_oneRises_12 : decode cX1_oneRises 12 = .ok (.invokevirtual 173, 3) := by decide +kernel
theorem dX1_oneRises_15 : decode cX1_oneRises 15 = .ok (.aload_n 0, 1) := by decide +kernel
theorem dX1_oneRises_16 : decode cX1_oneRises 16 = .ok (.getfield 50, 3) := by decide +kernel
theorem dX1_oneRises_19 : decode cX1_oneRises 19 = .ok (.irem, 1) := by decide +kernel
theorem dX1_oneRises_20 : decode cX1_oneRises 20 = .ok (.aaload, 1) := by decide +kernel
theorem dX1_oneRises_21 : decode cX1_oneRises 21 = .ok (.iconst (-1), 1) := by decide +kernel
theorem dX1_oneRises_22 : decode cX1_oneRises 22 = .ok (.putfield 79, 3) := by decide +kernel
theorem dX1_oneRises_25 : decode cX1_oneRises 25 = .ok (.return_, 1) := by decide +kernel
theorem dX2_init_0 : decode cX2_init 0 = .ok (.aload_n 0, 1) := by decide +kernel
theorem dX2_init_1 : decode cX2_init 1 = .ok (.invokespecial 3, 3) := by decide +kernel
theorem dX2_init_4 : decode cX2_init 4 = .ok (.aload_n 0, 1) := by decide +kernel
theorem dX2_init_5 : decode cX2_init 5 = .ok (.sipush 4096, 3) := by decide +kernel
theorem dX2_init_8 : decode cX2_init 8 = .ok (.newarray .int, 2) := by decide +kernel
theorem dX2_init_10 : decode cX2_init 10 = .ok (.putfield 9, 3) := by decide +kernel
theorem dX2_init_13 : decode cX2_init 13 = .ok (.aload_n 0, 1) := by decide +kernel
theorem dX2_init_14 : decode cX2_init 14 = .ok (.bipush 12, 2) := by decide +kernel
theorem dX2_init_16 : decode cX2_init 16 = .ok (.newarray .int, 2) := by decide +kernel
theorem dX2_init_18 : decode cX2_init 18 = .ok (.putfield 15, 3) := by decide +kernel
theorem dX2_init_21 : decode cX2_init 21 = .ok (.return_, 1) := by decide +kernel
theorem dX2_foresee_0 : decode cX2_foresee 0 = .ok (.aload_n 1, 1) := by decide +kernel
theorem dX2_foresee_1 : decode cX2_foresee 1 = .ok (.getfield 18, 3) := by decide +kernel
theorem dX2_foresee_4 : decode cX2_foresee 4 = .ok (.iload_n 2, 1) := by decide +kernel
theorem dX2_foresee_5 : decode cX2_foresee 5 = .ok (.iconst (-1), 1) := by decide +kernel
theorem dX2_foresee_6 : decode cX2_foresee 6 = .ok (.ixor, 1) := by decide +kernel
theorem dX2_foresee_7 : decode cX2_foresee 7 = .ok (.iand, 1) := by decide +kernel
theorem dX2_foresee_8 : decode cX2_foresee 8 = .ok (.istore 4, 2) := by decide +kernel
theorem dX2_foresee_10 : decode cX2_foresee 10 = .ok (.iload 4, 2) := by decide +kernel
theorem dX2_foresee_12 : decode cX2_foresee 12 = .ok (.istore 5, 2) := by decide +kernel
theorem dX2_foresee_14 : decode cX2_foresee 14 = .ok (.iconst 1, 1) := by decide +kernel
theorem dX2_foresee_15 : decode cX2_foresee 15 = .ok (.iload 4, 2) := by decide +kernel
theorem dX2_foresee_17 : decode cX2_foresee 17 = .ok (.invokestatic 24, 3) := by decide +kernel
theorem dX2_foresee_20 : decode cX2_foresee 20 = .ok (.ishl, 1) := by decide +kernel
theorem dX2_foresee_21 : decode cX2_foresee 21 = .ok (.istore 6, 2) := by decide +kernel
theorem dX2_foresee_23 : decode cX2_foresee 23 = .ok (.iload 6, 2) := by decide +kernel
theorem dX2_foresee_25 : decode cX2_foresee 25 = .ok (.ifCond .le 44, 3) := by decide +kernel
theorem dX2_foresee_28 : decode cX2_foresee 28 = .ok (.iload_n 2, 1) := by decide +kernel
theorem dX2_foresee_29 : decode cX2_foresee 29 = .ok (.iload 5, 2) := by decide +kernel
theorem dX2_foresee_31 : decode cX2_foresee 31 = .ok (.ior, 1) := by decide +kernel
theorem dX2_foresee_32 : decode cX2_foresee 32 = .ok (.istore 7, 2) := by decide +kernel
theorem dX2_foresee_34 : decode cX2_foresee 34 = .ok (.aload_n 0, 1) := by decide +kernel
theorem dX2_foresee_35 : decode cX2_foresee 35 = .ok (.getfield 9, 3) := by decide +kernel
theorem dX2_foresee_38 : decode cX2_foresee 38 = .ok (.iload 7, 2) := by decide +kernel
theorem dX2_foresee_40 : decode cX2_foresee 40 = .ok (.aload_n 0, 1) := by decide +kernel
theorem dX2_foresee_41 : decode cX2_foresee 41 = .ok (.iload 7, 2) := by decide +kernel
theorem dX2_foresee_43 : decode cX2_foresee 43 = .ok (.aload_n 1, 1) := by decide +kernel
theorem dX2_foresee_44 : decode cX2_foresee 44 = .ok (.iload 7, 2) := by decide +kernel
theorem dX2_foresee_46 : decode cX2_foresee 46 = .ok (.invokevirtual 30, 3) := by decide +kernel
theorem dX2_foresee_49 : decode cX2_foresee 49 = .ok (.iload_n 3, 1) := by decide +kernel
theorem dX2_foresee_50 : decode cX2_foresee 50 = .ok (.invokevirtual 33, 3) := by decide +kernel
theorem dX2_foresee_53 : decode cX2_foresee 53 = .ok (.iastore, 1) := by decide +kernel
theorem dX2_foresee_54 : decode cX2_foresee 54 = .ok (.iload 5, 2) := by decide +kernel
theorem dX2_foresee_56 : decode cX2_foresee 56 = .ok (.iconst 1, 1) := by decide +kernel
theorem dX2_foresee_57 : decode cX2_foresee 57 = .ok (.isub, 1) := by decide +kernel
theorem dX2_foresee_58 : decode cX2_foresee 58 = .ok (.iload 4, 2) := by decide +kernel
theorem dX2_foresee_60 : decode cX2_foresee 60 = .ok (.iand, 1) := by decide +kernel
theorem dX2_foresee_61 : decode cX2_foresee 61 = .ok (.istore 5, 2) := by decide +kernel
theorem dX2_foresee_63 : decode cX2_foresee 63 = .ok (.iinc 6 (-1), 3) := by decide +kernel
theorem dX2_foresee_66 : decode cX2_foresee 66 = .ok (.goto (-43), 3) := by decide +kernel
theorem dX2_foresee_69 : decode cX2_foresee 69 = .ok (.aload_n 0, 1) := by decide +kernel
theorem dX2_foresee_70 : decode cX2_foresee 70 = .ok (.getfield 9, 3) := by decide +kernel
theorem dX2_foresee_73 : decode cX2_foresee 73 = .ok (.iload_n 2, 1) := by decide +kernel
theorem dX2_foresee_74 : decode cX2_foresee 74 = .ok (.iaload, 1) := by decide +kernel
theorem dX2_foresee_75 : decode cX2_foresee 75 = .ok (.ireturn, 1) := by decide +kernel
theorem dX2_joined_0 : decode cX2_joined 0 = .ok (.iload_n 2, 1) := by decide +kernel
theorem dX2_joined_1 : decode cX2_joined 1 = .ok (.ifCond .ne 14, 3) := by decide +kernel
theorem dX2_joined_4 : decode cX2_joined 4 = .ok (.iload_n 3, 1) := by decide +kernel
theorem dX2_joined_5 : decode cX2_joined 5 = .ok (.iconst 2, 1) := by decide +kernel
theorem dX2_joined_6 : decode cX2_joined 6 = .ok (.if_icmp .ne 7, 3) := by decide +kernel
theorem dX2_joined_9 : decode cX2_joined 9 = .ok (.iconst 1, 1) := by decide +kernel
theorem dX2_joined_10 : decode cX2_joined 10 = .ok (.goto 4, 3) := by decide +kernel
theorem dX2_joined_13 : decode cX2_joined 13 = .ok (.iconst 0, 1) := by decide +kernel
theorem dX2_joined_14 : decode cX2_joined 14 = .ok (.ireturn, 1) := by decide +kernel
theorem dX2_joined_15 : decode cX2_joined 15 = .ok (.iconst 0, 1) := by decide +kernel
theorem dX2_joined_16 : decode cX2_joined 16 = .ok (.istore 4, 2) := by decide +kernel
theorem dX2_joined_18 : decode cX2_joined 18 = .ok (.ldc 37, 2) := by decide +kernel
theorem dX2_joined_20 : decode cX2_joined 20 = .ok (.istore 5, 2) := by decide +kernel
theorem dX2_joined_22 : decode cX2_joined 22 = .ok (.lconst 0, 1) := by decide +kernel
theorem dX2_joined_23 : decode cX2_joined 23 = .ok (.lstore 6, 2) := by decide +kernel
theorem dX2_joined_25 : decode cX2_joined 25 = .ok (.iload_n 2, 1) := by decide +kernel
theorem dX2_joined_26 : decode cX2_joined 26 = .ok (.istore 8, 2) := by decide +kernel
theorem dX2_joined_28 : decode cX2_joined 28 = .ok (.iload_n 2, 1) := by decide +kernel
theorem dX2_joined_29 : decode cX2_joined 29 = .ok (.invokestatic 24, 3) := by decide +kernel
theorem dX2_joined_32 : decode cX2_joined 32 = .ok (.istore 9, 2) := by decide +kernel
theorem dX2_joined_34 : decode cX2_joined 34 = .ok (.iload 9, 2) := by decide +kernel
theorem dX2_joined_36 : decode cX2_joined 36 = .ok (.ifCond .le 73, 3) := by decide +kernel
theorem dX2_joined_39 : decode cX2_joined 39 = .ok (.aload_n 0, 1) := by decide +kernel
theorem dX2_joined_40 : decode cX2_joined 40 = .ok (.getfield 9, 3) := by decide +kernel
theorem dX2_joined_43 : decode cX2_joined 43 = .ok (.iload_n 1, 1) := by decide +kernel
theorem dX2_joined_44 : decode cX2_joined 44 = .ok (.iload 8, 2) := by decide +kernel
theorem dX2_joined_46 : decode cX2_joined 46 = .ok (.iload 8, 2) := by decide +kernel
theorem dX2_joined_48 : decode cX2_joined 48 = .ok (.ineg, 1) := by decide +kernel
theorem dX2_joined_49 : decode cX2_joined 49 = .ok (.iand, 1) := by decide +kernel
theorem dX2_joined_50 : decode cX2_joined 50 = .ok (.ior, 1) := by decide +kernel
theorem dX2_joined_51 : decode cX2_joined 51 = .ok (.iaload, 1) := by decide +kernel
theorem dX2_joined_52 : decode cX2_joined 52 = .ok (.istore 10, 2) := by decide +kernel
theorem dX2_joined_54 : decode cX2_joined 54 = .ok (.iload 8, 2) := by decide +kernel
theorem dX2_joined_56 : decode cX2_joined 56 = .ok (.iload 8, 2) := by decide +kernel
theorem dX2_joined_58 : decode cX2_joined 58 = .ok (.iconst 1, 1) := by decide +kernel
theorem dX2_joined_59 : decode cX2_joined 59 = .ok (.isub, 1) := by decide +kernel
theorem dX2_joined_60 : decode cX2_joined 60 = .ok (.iand, 1) := by decide +kernel
theorem dX2_joined_61 : decode cX2_joined 61 = .ok (.istore 8, 2) := by decide +kernel
theorem dX2_joined_63 : decode cX2_joined 63 = .ok (.iload 10, 2) := by decide +kernel
theorem dX2_joined_65 : decode cX2_joined 65 = .ok (.iload 4, 2) := by decide +kernel
theorem dX2_joined_67 : decode cX2_joined 67 = .ok (.if_icmp .le 8, 3) := by decide +kernel
theorem dX2_joined_70 : decode cX2_joined 70 = .ok (.iload 10, 2) := by decide +kernel
theorem dX2_joined_72 : decode cX2_joined 72 = .ok (.goto 5, 3) := by decide +kernel
theorem dX2_joined_75 : decode cX2_joined 75 = .ok (.iload 4, 2) := by decide +kernel
theorem dX2_joined_77 : decode cX2_joined 77 = .ok (.istore 4, 2) := by decide +kernel
theorem dX2_joined_79 : decode cX2_joined 79 = .ok (.iload 10, 2) := by decide +kernel
theorem dX2_joined_81 : decode cX2_joined 81 = .ok (.iload 5, 2) := by decide +kernel
theorem dX2_joined_83 : decode cX2_joined 83 = .ok (.if_icmp .ge 8, 3) := by decide +kernel
theorem dX2_joined_86 : decode cX2_joined 86 = .ok (.iload 10, 2) := by decide +kernel
theorem dX2_joined_88 : decode cX2_joined 88 = .ok (.goto 5, 3) := by decide +kernel
theorem dX2_joined_91 : decode cX2_joined 91 = .ok (.iload 5, 2) := by decide +kernel
theorem dX2_joined_93 : decode cX2_joined 93 = .ok (.istore 5, 2) := by decide +kernel
theorem dX2_joined_95 : decode cX2_joined 95 = .ok (.lload 6, 2) := by decide +kernel
theorem dX2_joined_97 : decode cX2_joined 97 = .ok (.iload 10, 2) := by decide +kernel
theorem dX2_joined_99 : decode cX2_joined 99 = .ok (.i2l, 1) := by decide +kernel
theorem dX2_joined_100 : decode cX2_joined 100 = .ok (.ladd, 1) := by decide +kernel
theorem dX2_joined_101 : decode cX2_joined 101 = .ok (.lstore 6, 2) := by decide +kernel
theorem dX2_joined_103 : decode cX2_joined 103 = .ok (.iinc 9 (-1), 3) := by decide +kernel
theorem dX2_joined_106 : decode cX2_joined 106 = .ok (.goto (-72), 3) := by decide +kernel
theorem dX2_joined_109 : decode cX2_joined 109 = .ok (.iload_n 3, 1) := by decide +kernel
theorem dX2_joined_110 : decode cX2_joined 110 = .ok (.tableswitch 44 0 2 #[26, 31, 36], 26) := by decide +kernel
theorem dX2_joined_136 : decode cX2_joined 136 = .ok (.iload 4, 2) := by decide +kernel
theorem dX2_joined_138 : decode cX2_joined 138 = .ok (.iconst 1, 1) := by decide +kernel
theorem dX2_joined_139 : decode cX2_joined 139 = .ok (.iadd, 1) := by decide +kernel
theorem dX2_joined_140 : decode cX2_joined 140 = .ok (.ireturn, 1) := by decide +kernel
theorem dX2_joined_141 : decode cX2_joined 141 = .ok (.iload 5, 2) := by decide +kernel
theorem dX2_joined_143 : decode cX2_joined 143 = .ok (.iconst 1, 1) := by decide +kernel
theorem dX2_joined_144 : decode cX2_joined 144 = .ok (.iadd, 1) := by decide +kernel
theorem dX2_joined_145 : decode cX2_joined 145 = .ok (.ireturn, 1) := by decide +kernel
theorem dX2_joined_146 : decode cX2_joined 146 = .ok (.lload 6, 2) := by decide +kernel
theorem dX2_joined_148 : decode cX2_joined 148 = .ok (.ldc2_w 38, 3) := by decide +kernel
theorem dX2_joined_151 : decode cX2_joined 151 = .ok (.lrem, 1) := by decide +kernel
theorem dX2_joined_152 : decode cX2_joined 152 = .ok (.l2i, 1) := by decide +kernel
theorem dX2_joined_153 : decode cX2_joined 153 = .ok (.ireturn, 1) := by decide +kernel
theorem dX2_joined_154 : decode cX2_joined 154 = .ok (.iload 5, 2) := by decide +kernel
theorem dX2_joined_156 : decode cX2_joined 156 = .ok (.ifCond .ne 7, 3) := by decide +kernel
theorem dX2_joined_159 : decode cX2_joined 159 = .ok (.iconst 1, 1) := by decide +kernel
theorem dX2_joined_160 : decode cX2_joined 160 = .ok (.goto 4, 3) := by decide +kernel
theorem dX2_joined_163 : decode cX2_joined 163 = .ok (.iconst 0, 1) := by decide +kernel
theorem dX2_joined_164 : decode cX2_joined 164 = .ok (.ireturn, 1) := by decide +kernel
theorem dX2_winning_0 : decode cX2_winning 0 = .ok (.aload_n 1, 1) := by decide +kernel
theorem dX2_winning_1 : decode cX2_winning 1 = .ok (.iload_n 2, 1) := by decide +kernel
theorem dX2_winning_2 : decode cX2_winning 2 = .ok (.invokevirtual 30, 3) := by decide +kernel
theorem dX2_winning_5 : decode cX2_winning 5 = .ok (.istore_n 3, 1) := by decide +kernel
theorem dX2_winning_6 : decode cX2_winning 6 = .ok (.iconst 0, 1) := by decide +kernel
theorem dX2_winning_7 : decode cX2_winning 7 = .ok (.istore 4, 2) := by decide +kernel
theorem dX2_winning_9 : decode cX2_winning 9 = .ok (.iconst 0, 1) := by decide +kernel
theorem dX2_winning_10 : decode cX2_winning 10 = .ok (.istore 5, 2) := by decide +kernel
theorem dX2_winning_12 : decode cX2_winning 12 = .ok (.iload 5, 2) := by decide +kernel
theorem dX2_winning_14 : decode cX2_winning 14 = .ok (.aload_n 1, 1) := by decide +kernel
theorem dX2_winning_15 : decode cX2_winning 15 = .ok (.getfield 40, 3) := by decide +kernel
theorem dX2_winning_18 : decode cX2_winning 18 = .ok (.if_icmp .ge 41, 3) := by decide +kernel
theorem dX2_winning_21 : decode cX2_winning 21 = .ok (.iload_n 3, 1) := by decide +kernel
theorem dX2_winning_22 : decode cX2_winning 22 = .ok (.iload 5, 2) := by decide +kernel
theorem dX2_winning_24 : decode cX2_winning 24 = .ok (.invokestatic 43, 3) := by decide +kernel
theorem dX2_winning_27 : decode cX2_winning 27 = .ok (.ifCond .eq 26, 3) := by decide +kernel
theorem dX2_winning_30 : decode cX2_winning 30 = .ok (.aload_n 0, 1) := by decide +kernel
theorem dX2_winning_31 : decode cX2_winning 31 = .ok (.getfield 9, 3) := by decide +kernel
theorem dX2_winning_34 : decode cX2_winning 34 = .ok (.iload_n 2, 1) := by decide +kernel
theorem dX2_winning_35 : decode cX2_winning 35 = .ok (.iconst 1, 1) := by decide +kernel
theorem dX2_winning_36 : decode cX2_winning 36 = .ok (.iload 5, 2) := by decide +kernel
theorem dX2_winning_38 : decode cX2_winning 38 = .ok (.ishl, 1) := by decide +kernel
theorem dX2_winning_39 : decode cX2_winning 39 = .ok (.ior, 1) := by decide +kernel
theorem dX2_winning_40 : decode cX2_winning 40 = .ok (.iaload, 1) := by decide +kernel
theorem dX2_winning_41 : decode cX2_winning 41 = .ok (.ifCond .ne 12, 3) := by decide +kernel
theorem dX2_winning_44 : decode cX2_winning 44 = .ok (.iload 4, 2) := by decide +kernel
theorem dX2_winning_46 : decode cX2_winning 46 = .ok (.iconst 1, 1) := by decide +kernel
theorem dX2_winning_47 : decode cX2_winning 47 = .ok (.iload 5, 2) := by decide +kernel
theorem dX2_winning_49 : decode cX2_winning 49 = .ok (.ishl, 1) := by decide +kernel
theorem dX2_winning_50 : decode cX2_winning 50 = .ok (.ior, 1) := by decide +kernel
theorem dX2_winning_51 : decode cX2_winning 51 = .ok (.istore 4, 2) := by decide +kernel
theorem dX2_winning_53 : decode cX2_winning 53 = .ok (.iinc 5 1, 3) := by decide +kernel
theorem dX2_winning_56 : decode cX2_winning 56 = .ok (.goto (-44), 3) := by decide +kernel
theorem dX2_winning_59 : decode cX2_winning 59 = .ok (.iload 4, 2) := by decide +kernel
theorem dX2_winning_61 : decode cX2_winning 61 = .ok (.ireturn, 1) := by decide +kernel
theorem dX2_weigh_0 : decode cX2_weigh 0 = .ok (.aload_n 0, 1) := by decide +kernel
theorem dX2_weigh_1 : decode cX2_weigh 1 = .ok (.aload_n 1, 1) := by decide +kernel
theorem dX2_weigh_2 : decode cX2_weigh 2 = .ok (.iload_n 2, 1) := by decide +kernel
theorem dX2_weigh_3 : decode cX2_weigh 3 = .ok (.invokevirtual 47, 3) := by decide +kernel
theorem dX2_weigh_6 : decode cX2_weigh 6 = .ok (.aload_n 0, 1) := by decide +kernel
theorem dX2_weigh_7 : decode cX2_weigh 7 = .ok (.iload_n 2, 1) := by decide +kernel
theorem dX2_weigh_8 : decode cX2_weigh 8 = .ok (.iconst (-1), 1) := by decide +kernel
theorem dX2_weigh_9 : decode cX2_weigh 9 = .ok (.ixor, 1) := by decide +kernel
theorem dX2_weigh_10 : decode cX2_weigh 10 = .ok (.invokestatic 51, 3) := by decide +kernel
theorem dX2_weigh_13 : decode cX2_weigh 13 = .ok (.putfield 54, 3) := by decide +kernel
theorem dX2_weigh_16 : decode cX2_weigh 16 = .ok (.aload_n 0, 1) := by decide +kernel
theorem dX2_weigh_17 : decode cX2_weigh 17 = .ok (.getfield 54, 3) := by decide +kernel
theorem dX2_weigh_20 : decode cX2_weigh 20 = .ok (.iconst 1, 1) := by decide +kernel
theorem dX2_weigh_21 : decode cX2_weigh 21 = .ok (.iadd, 1) := by decide +kernel
theorem dX2_weigh_22 : decode cX2_weigh 22 = .ok (.istore_n 3, 1) := by decide +kernel
theorem dX2_weigh_23 : decode cX2_weigh 23 = .ok (.iload_n 3, 1) := by decide +kernel
theorem dX2_weigh_24 : decode cX2_weigh 24 = .ok (.aload_n 1, 1) := by decide +kernel
theorem dX2_weigh_25 : decode cX2_weigh 25 = .ok (.getfield 57, 3) := by decide +kernel
theorem dX2_weigh_28 : decode cX2_weigh 28 = .ok (.getfield 40, 3) := by decide +kernel
theorem dX2_weigh_31 : decode cX2_weigh 31 = .ok (.if_icmp .ge 40, 3) := by decide +kernel
theorem dX2_weigh_34 : decode cX2_weigh 34 = .ok (.iload_n 2, 1) := by decide +kernel
theorem dX2_weigh_35 : decode cX2_weigh 35 = .ok (.iload_n 3, 1) := by decide +kernel
theorem dX2_weigh_36 : decode cX2_weigh 36 = .ok (.invokestatic 43, 3) := by decide +kernel
theorem dX2_weigh_39 : decode cX2_weigh 39 = .ok (.ifCond .ne 26, 3) := by decide +kernel
theorem dX2_weigh_42 : decode cX2_weigh 42 = .ok (.aload_n 0, 1) := by decide +kernel
theorem dX2_weigh_43 : decode cX2_weigh 43 = .ok (.getfield 15, 3) := by decide +kernel
theorem dX2_weigh_46 : decode cX2_weigh 46 = .ok (.iload_n 3, 1) := by decide +kernel
theorem dX2_weigh_47 : decode cX2_weigh 47 = .ok (.iaload, 1) := by decide +kernel
theorem dX2_weigh_48 : decode cX2_weigh 48 = .ok (.aload_n 0, 1) := by decide +kernel
theorem dX2_weigh_49 : decode cX2_weigh 49 = .ok (.getfield 15, 3) := by decide +kernel
theorem dX2_weigh_52 : decode cX2_weigh 52 = .ok (.aload_n 0, 1) := by decide +kernel
theorem dX2_weigh_53 : decode cX2_weigh 53 = .ok (.getfield 54, 3) := by decide +kernel
theorem dX2_weigh_56 : decode cX2_weigh 56 = .ok (.iaload, 1) := by decide +kernel
theorem dX2_weigh_57 : decode cX2_weigh 57 = .ok (.if_icmp .le 8, 3) := by decide +kernel
theorem dX2_weigh_60 : decode cX2_weigh 60 = .ok (.aload_n 0, 1) := by decide +kernel
theorem dX2_weigh_61 : decode cX2_weigh 61 = .ok (.iload_n 3, 1) := by decide +kernel
theorem dX2_weigh_62 : decode cX2_weigh 62 = .ok (.putfield 54, 3) := by decide +kernel
theorem dX2_weigh_65 : decode cX2_weigh 65 = .ok (.iinc 3 1, 3) := by decide +kernel
theorem dX2_weigh_68 : decode cX2_weigh 68 = .ok (.goto (-45), 3) := by decide +kernel
theorem dX2_weigh_71 : decode cX2_weigh 71 = .ok (.aload_n 0, 1) := by decide +kernel
theorem dX2_weigh_72 : decode cX2_weigh 72 = .ok (.aload_n 0, 1) := by decide +kernel
theorem dX2_weigh_73 : decode cX2_weigh 73 = .ok (.getfield 15, 3) := by decide +kernel
theorem dX2_weigh_76 : decode cX2_weigh 76 = .ok (.aload_n 0, 1) := by decide +kernel
theorem dX2_weigh_77 : decode cX2_weigh 77 = .ok (.getfield 54, 3) := by decide +kernel
theorem dX2_weigh_80 : decode cX2_weigh 80 = .ok (.iaload, 1) := by decide +kernel
theorem dX2_weigh_81 : decode cX2_weigh 81 = .ok (.iconst (-1), 1) := by decide +kernel
theorem dX2_weigh_82 : decode cX2_weigh 82 = .ok (.if_icmp .ne 7, 3) := by decide +kernel
theorem dX2_weigh_85 : decode cX2_weigh 85 = .ok (.iconst 0, 1) := by decide +kernel
theorem dX2_weigh_86 : decode cX2_weigh 86 = .ok (.goto 15, 3) := by decide +kernel
theorem dX2_weigh_89 : decode cX2_weigh 89 = .ok (.aload_n 0, 1) := by decide +kernel
theorem dX2_weigh_90 : decode cX2_weigh 90 = .ok (.getfield 15, 3) := by decide +kernel
theorem dX2_weigh_93 : decode cX2_weigh 93 = .ok (.aload_n 0, 1) := by decide +kernel
theorem dX2_weigh_94 : decode cX2_weigh 94 = .ok (.getfield 54, 3) := by decide +kernel
theorem dX2_weigh_97 : decode cX2_weigh 97 = .ok (.iaload, 1) := by decide +kernel
theorem dX2_weigh_98 : decode cX2_weigh 98 = .ok (.bipush 50, 2) := by decide +kernel
theorem dX2_weigh_100 : decode cX2_weigh 100 = .ok (.iadd, 1) := by decide +kernel
theorem dX2_weigh_101 : decode cX2_weigh 101 = .ok (.putfield 63, 3) := by decide +kernel
theorem dX2_weigh_104 : decode cX2_weigh 104 = .ok (.return_, 1) := by decide +kernel
theorem dX2_gatherGains_0 : decode cX2_gatherGains 0 = .ok (.aload_n 1, 1) := by decide +kernel
theorem dX2_gatherGains_1 : decode cX2_gatherGains 1 = .ok (.getfield 57, 3) := by decide +kernel
theorem dX2_gatherGains_4 : decode cX2_gatherGains 4 = .ok (.astore_n 3, 1) := by decide +kernel
theorem dX2_gatherGains_5 : decode cX2_gatherGains 5 = .ok (.iconst 0, 1) := by decide +kernel
theorem dX2_gatherGains_6 : decode cX2_gatherGains 6 = .ok (.istore 4, 2) := by decide +kernel
theorem dX2_gatherGains_8 : decode cX2_gatherGains 8 = .ok (.iload 4, 2) := by decide +kernel
theorem dX2_gatherGains_10 : decode cX2_gatherGains 10 = .ok (.bipush 12, 2) := by decide +kernel
theorem dX2_gatherGains_12 : decode cX2_gatherGains 12 = .ok (.if_icmp .ge 17, 3) := by decide +kernel
theorem dX2_gatherGains_15 : decode cX2_gatherGains 15 = .ok (.aload_n 0, 1) := by decide +kernel
theorem dX2_gatherGains_16 : decode cX2_gatherGains 16 = .ok (.getfield 15, 3) := by decide +kernel
theorem dX2_gatherGains_19 : decode cX2_gatherGains 19 = .ok (.iload 4, 2) := by decide +kernel
theorem dX2_gatherGains_21 : decode cX2_gatherGains 21 = .ok (.iconst (-1), 1) := by decide +kernel
theorem dX2_gatherGains_22 : decode cX2_gatherGains 22 = .ok (.iastore, 1) := by decide +kernel
theorem dX2_gatherGains_23 : decode cX2_gatherGains 23 = .ok (.iinc 4 1, 3) := by decide +kernel
theorem dX2_gatherGains_26 : decode cX2_gatherGains 26 = .ok (.goto (-18), 3) := by decide +kernel
theorem dX2_gatherGains_29 : decode cX2_gatherGains 29 = .ok (.iload_n 2, 1) := by decide +kernel
theorem dX2_gatherGains_30 : decode cX2_gatherGains 30 = .ok (.istore 4, 2) := by decide +kernel
theorem dX2_gatherGains_32 : decode cX2_gatherGains 32 = .ok (.iload 4, 2) := by decide +kernel
theorem dX2_gatherGains_34 : decode cX2_gatherGains 34 = .ok (.aload_n 3, 1) := by decide +kernel
theorem dX2_gatherGains_35 : decode cX2_gatherGains 35 = .ok (.getfield 18, 3) := by decide +kernel
theorem dX2_gatherGains_38 : decode cX2_gatherGains 38 = .ok (.if_icmp .gt 17, 3) := by decide +kernel
theorem dX2_gatherGains_41 : decode cX2_gatherGains 41 = .ok (.aload_n 0, 1) := by decide +kernel
theorem dX2_gatherGains_42 : decode cX2_gatherGains 42 = .ok (.getfield 9, 3) := by decide +kernel
theorem dX2_gatherGains_45 : decode cX2_gatherGains 45 = .ok (.iload 4, 2) := by decide +kernel
theorem dX2_gatherGains_47 : decode cX2_gatherGains 47 = .ok (.iconst (-1), 1) := by decide +kernel
theorem dX2_gatherGains_48 : decode cX2_gatherGains 48 = .ok (.iastore, 1) := by decide +kernel
theorem dX2_gatherGains_49 : decode cX2_gatherGains 49 = .ok (.iinc 4 1, 3) := by decide +kernel
theorem dX2_gatherGains_52 : decode cX2_gatherGains 52 = .ok (.goto (-20), 3) := by decide +kernel
theorem dX2_gatherGains_55 : decode cX2_gatherGains 55 = .ok (.aload_n 0, 1) := by decide +kernel
theorem dX2_gatherGains_56 : decode cX2_gatherGains 56 = .ok (.getfield 9, 3) := by decide +kernel
theorem dX2_gatherGains_59 : decode cX2_gatherGains 59 = .ok (.iload_n 2, 1) := by decide +kernel
theorem dX2_gatherGains_60 : decode cX2_gatherGains 60 = .ok (.iconst 0, 1) := by decide +kernel
theorem dX2_gatherGains_61 : decode cX2_gatherGains 61 = .ok (.iastore, 1) := by decide +kernel
theorem dX2_gatherGains_62 : decode cX2_gatherGains 62 = .ok (.iload_n 2, 1) := by decide +kernel
theorem dX2_gatherGains_63 : decode cX2_gatherGains 63 = .ok (.istore 4, 2) := by decide +kernel
theorem dX2_gatherGains_65 : decode cX2_gatherGains 65 = .ok (.iload 4, 2) := by decide +kernel
theorem dX2_gatherGains_67 : decode cX2_gatherGains 67 = .ok (.aload_n 3, 1) := by decide +kernel
theorem dX2_gatherGains_68 : decode cX2_gatherGains 68 = .ok (.getfield 18, 3) := by decide +kernel
theorem dX2_gatherGains_71 : decode cX2_gatherGains 71 = .ok (.if_icmp .gt 62, 3) := by decide +kernel
theorem dX2_gatherGains_74 : decode cX2_gatherGains 74 = .ok (.aload_n 0, 1) := by decide +kernel
theorem dX2_gatherGains_75 : decode cX2_gatherGains 75 = .ok (.getfield 9, 3) := by decide +kernel
theorem dX2_gatherGains_78 : decode cX2_gatherGains 78 = .ok (.iload 4, 2) := by decide +kernel
theorem dX2_gatherGains_80 : decode cX2_gatherGains 80 = .ok (.iaload, 1) := by decide +kernel
theorem dX2_gatherGains_81 : decode cX2_gatherGains 81 = .ok (.iconst (-1), 1) := by decide +kernel
theorem dX2_gatherGains_82 : decode cX2_gatherGains 82 = .ok (.if_icmp .eq 45, 3) := by decide +kernel
theorem dX2_gatherGains_85 : decode cX2_gatherGains 85 = .ok (.aload_n 3, 1) := by decide +kernel
theorem dX2_gatherGains_86 : decode cX2_gatherGains 86 = .ok (.iload 4, 2) := by decide +kernel
theorem dX2_gatherGains_88 : decode cX2_gatherGains 88 = .ok (.invokevirtual 30, 3) := by decide +kernel
theorem dX2_gatherGains_91 : decode cX2_gatherGains 91 = .ok (.istore 5, 2) := by decide +kernel
theorem dX2_gatherGains_93 : decode cX2_gatherGains 93 = .ok (.iload 5, 2) := by decide +kernel
theorem dX2_gatherGains_95 : decode cX2_gatherGains 95 = .ok (.ifCond .ne 23, 3) := by decide +kernel
theorem dX2_gatherGains_98 : decode cX2_gatherGains 98 = .ok (.aload_n 0, 1) := by decide +kernel
theorem dX2_gatherGains_99 : decode cX2_gatherGains 99 = .ok (.iload 4, 2) := by decide +kernel
theorem dX2_gatherGains_101 : decode cX2_gatherGains 101 = .ok (.iload_n 2, 1) := by decide +kernel
theorem dX2_gatherGains_102 : decode cX2_gatherGains 102 = .ok (.iconst (-1), 1) := by decide +kernel
theorem dX2_gatherGains_103 : decode cX2_gatherGains 103 = .ok (.ixor, 1) := by decide +kernel
theorem dX2_gatherGains_104 : decode cX2_gatherGains 104 = .ok (.iand, 1) := by decide +kernel
theorem dX2_gatherGains_105 : decode cX2_gatherGains 105 = .ok (.aload_n 0, 1) := by decide +kernel
theorem dX2_gatherGains_106 : decode cX2_gatherGains 106 = .ok (.getfield 9, 3) := by decide +kernel
theorem dX2_gatherGains_109 : decode cX2_gatherGains 109 = .ok (.iload 4, 2) := by decide +kernel
theorem dX2_gatherGains_111 : decode cX2_gatherGains 111 = .ok (.iaload, 1) := by decide +kernel
theorem dX2_gatherGains_112 : decode cX2_gatherGains 112 = .ok (.invokevirtual 66, 3) := by decide +kernel
theorem dX2_gatherGains_115 : decode cX2_gatherGains 115 = .ok (.goto 12, 3) := by decide +kernel
theorem dX2_gatherGains_118 : decode cX2_gatherGains 118 = .ok (.aload_n 0, 1) := by decide +kernel
theorem dX2_gatherGains_119 : decode cX2_gatherGains 119 = .ok (.aload_n 1, 1) := by decide +kernel
theorem dX2_gatherGains_120 : decode cX2_gatherGains 120 = .ok (.iload 4, 2) := by decide +kernel
theorem dX2_gatherGains_122 : decode cX2_gatherGains 122 = .ok (.iload 5, 2) := by decide +kernel
theorem dX2_gatherGains_124 : decode cX2_gatherGains 124 = .ok (.invokevirtual 70, 3) := by decide +kernel
theorem dX2_gatherGains_127 : decode cX2_gatherGains 127 = .ok (.iinc 4 1, 3) := by decide +kernel
theorem dX2_gatherGains_130 : decode cX2_gatherGains 130 = .ok (.goto (-65), 3) := by decide +kernel
theorem dX2_gatherGains_133 : decode cX2_gatherGains 133 = .ok (.return_, 1) := by decide +kernel
theorem dX2_noteGain_0 : decode cX2_noteGain 0 = .ok (.iconst 0, 1) := by decide +kernel
theorem dX2_noteGain_1 : decode cX2_noteGain 1 = .ok (.istore_n 3, 1) := by decide +kernel
theorem dX2_noteGain_2 : decode cX2_noteGain 2 = .ok (.iload_n 3, 1) := by decide +kernel
theorem dX2_noteGain_3 : decode cX2_noteGain 3 = .ok (.bipush 12, 2) := by decide +kernel
theorem dX2_noteGain_5 : decode cX2_noteGain 5 = .ok (.if_icmp .ge 34, 3) := by decide +kernel
theorem dX2_noteGain_8 : decode cX2_noteGain 8 = .ok (.iload_n 1, 1) := by decide +kernel
theorem dX2_noteGain_9 : decode cX2_noteGain 9 = .ok (.iload_n 3, 1) := by decide +kernel
theorem dX2_noteGain_10 : decode cX2_noteGain 10 = .ok (.invokestatic 43, 3) := by decide +kernel
theorem dX2_noteGain_13 : decode cX2_noteGain 13 = .ok (.ifCond .eq 20, 3) := by decide +kernel
theorem dX2_noteGain_16 : decode cX2_noteGain 16 = .ok (.iload_n 2, 1) := by decide +kernel
theorem dX2_noteGain_17 : decode cX2_noteGain 17 = .ok (.aload_n 0, 1) := by decide +kernel
theorem dX2_noteGain_18 : decode cX2_noteGain 18 = .ok (.getfield 15, 3) := by decide +kernel
theorem dX2_noteGain_21 : decode cX2_noteGain 21 = .ok (.iload_n 3, 1) := by decide +kernel
theorem dX2_noteGain_22 : decode cX2_noteGain 22 = .ok (.iaload, 1) := by decide +kernel
theorem dX2_noteGain_23 : decode cX2_noteGain 23 = .ok (.if_icmp .le 10, 3) := by decide +kernel
theorem dX2_noteGain_26 : decode cX2_noteGain 26 = .ok (.aload_n 0, 1) := by decide +kernel
theorem dX2_noteGain_27 : decode cX2_noteGain 27 = .ok (.getfield 15, 3) := by decide +kernel
theorem dX2_noteGain_30 : decode cX2_noteGain 30 = .ok (.iload_n 3, 1) := by decide +kernel
theorem dX2_noteGain_31 : decode cX2_noteGain 31 = .ok (.iload_n 2, 1) := by decide +kernel
theorem dX2_noteGain_32 : decode cX2_noteGain 32 = .ok (.iastore, 1) := by decide +kernel
theorem dX2_noteGain_33 : decode cX2_noteGain 33 = .ok (.iinc 3 1, 3) := by decide +kernel
theorem dX2_noteGain_36 : decode cX2_noteGain 36 = .ok (.goto (-34), 3) := by decide +kernel
theorem dX2_noteGain_39 : decode cX2_noteGain 39 = .ok (.return_, 1) := by decide +kernel
theorem dX2_spreadGain_0 : decode cX2_spreadGain 0 = .ok (.iconst 0, 1) := by decide +kernel
theorem dX2_spreadGain_1 : decode cX2_spreadGain 1 = .ok (.istore 4, 2) := by decide +kernel
theorem dX2_spreadGain_3 : decode cX2_spreadGain 3 = .ok (.iload 4, 2) := by decide +kernel
theorem dX2_spreadGain_5 : decode cX2_spreadGain 5 = .ok (.aload_n 1, 1) := by decide +kernel
theorem dX2_spreadGain_6 : decode cX2_spreadGain 6 = .ok (.getfield 57, 3) := by decide +kernel
theorem dX2_spreadGain_9 : decode cX2_spreadGain 9 = .ok (.getfield 40, 3) := by decide +kernel
theorem dX2_spreadGain_12 : decode cX2_spreadGain 12 = .ok (.if_icmp .ge 50, 3) := by decide +kernel
theorem dX2_spreadGain_15 : decode cX2_spreadGain 15 = .ok (.iload_n 3, 1) := by decide +kernel
theorem dX2_spreadGain_16 : decode cX2_spreadGain 16 = .ok (.iload 4, 2) := by decide +kernel
theorem dX2_spreadGain_18 : decode cX2_spreadGain 18 = .ok (.invokestatic 43, 3) := by decide +kernel
theorem dX2_spreadGain_21 : decode cX2_spreadGain 21 = .ok (.ifCond .eq 35, 3) := by decide +kernel
theorem dX2_spreadGain_24 : decode cX2_spreadGain 24 = .ok (.aload_n 0, 1) := by decide +kernel
theorem dX2_spreadGain_25 : decode cX2_spreadGain 25 = .ok (.getfield 9, 3) := by decide +kernel
theorem dX2_spreadGain_28 : decode cX2_spreadGain 28 = .ok (.iload_n 2, 1) := by decide +kernel
theorem dX2_spreadGain_29 : decode cX2_spreadGain 29 = .ok (.iconst 1, 1) := by decide +kernel
theorem dX2_spreadGain_30 : decode cX2_spreadGain 30 = .ok (.iload 4, 2) := by decide +kernel
theorem dX2_spreadGain_32 : decode cX2_spreadGain 32 = .ok (.ishl, 1) := by decide +kernel
theorem dX2_spreadGain_33 : decode cX2_spreadGain 33 = .ok (.ior, 1) := by decide +kernel
theorem dX2_spreadGain_34 : decode cX2_spreadGain 34 = .ok (.aload_n 0, 1) := by decide +kernel
theorem dX2_spreadGain_35 : decode cX2_spreadGain 35 = .ok (.getfield 9, 3) := by decide +kernel
theorem dX2_spreadGain_38 : decode cX2_spreadGain 38 = .ok (.iload_n 2, 1) := by decide +kernel
theorem dX2_spreadGain_39 : decode cX2_spreadGain 39 = .ok (.iaload, 1) := by decide +kernel
theorem dX2_spreadGain_40 : decode cX2_spreadGain 40 = .ok (.aload_n 1, 1) := by decide +kernel
theorem dX2_spreadGain_41 : decode cX2_spreadGain 41 = .ok (.getfield 74, 3) := by decide +kernel
theorem dX2_spreadGain_44 : decode cX2_spreadGain 44 = .ok (.iconst 0, 1) := by decide +kernel
theorem dX2_spreadGain_45 : decode cX2_spreadGain 45 = .ok (.iaload, 1) := by decide +kernel
theorem dX2_spreadGain_46 : decode cX2_spreadGain 46 = .ok (.iadd, 1) := by decide +kernel
theorem dX2_spreadGain_47 : decode cX2_spreadGain 47 = .ok (.aload_n 1, 1) := by decide +kernel
theorem dX2_spreadGain_48 : decode cX2_spreadGain 48 = .ok (.getfield 77, 3) := by decide +kernel
theorem dX2_spreadGain_51 : decode cX2_spreadGain 51 = .ok (.iload 4, 2) := by decide +kernel
theorem dX2_spreadGain_53 : decode cX2_spreadGain 53 = .ok (.iaload, 1) := by decide +kernel
theorem dX2_spreadGain_54 : decode cX2_spreadGain 54 = .ok (.iadd, 1) := by decide +kernel
theorem dX2_spreadGain_55 : decode cX2_spreadGain 55 = .ok (.iastore, 1) := by decide +kernel
theorem dX2_spreadGain_56 : decode cX2_spreadGain 56 = .ok (.iinc 4 1, 3) := by decide +kernel
theorem dX2_spreadGain_59 : decode cX2_spreadGain 59 = .ok (.goto (-56), 3) := by decide +kernel
theorem dX2_spreadGain_62 : decode cX2_spreadGain 62 = .ok (.return_, 1) := by decide +kernel
theorem dX3_init_0 : decode cX3_init 0 = .ok (.aload_n 0, 1) := by decide +kernel
theorem dX3_init_1 : decode cX3_init 1 = .ok (.invokespecial 3, 3) := by decide +kernel
theorem dX3_init_4 : decode cX3_init 4 = .ok (.aload_n 0, 1) := by decide +kernel
theorem dX3_init_5 : decode cX3_init 5 = .ok (.iconst (-1), 1) := by decide +kernel
theorem dX3_init_6 : decode cX3_init 6 = .ok (.putfield 9, 3) := by decide +kernel
theorem dX3_init_9 : decode cX3_init 9 = .ok (.aload_n 0, 1) := by decide +kernel
theorem dX3_init_10 : decode cX3_init 10 = .ok (.bipush 24, 2) := by decide +kernel
theorem dX3_init_12 : decode cX3_init 12 = .ok (.newarray .int, 2) := by decide +kernel
theorem dX3_init_14 : decode cX3_init 14 = .ok (.putfield 15, 3) := by decide +kernel
theorem dX3_init_17 : decode cX3_init 17 = .ok (.return_, 1) := by decide +kernel
theorem dX3_clear_0 : decode cX3_clear 0 = .ok (.aload_n 0, 1) := by decide +kernel
theorem dX3_clear_1 : decode cX3_clear 1 = .ok (.iload_n 1, 1) := by decide +kernel
theorem dX3_clear_2 : decode cX3_clear 2 = .ok (.putfield 9, 3) := by decide +kernel
theorem dX3_clear_5 : decode cX3_clear 5 = .ok (.aload_n 0, 1) := by decide +kernel
theorem dX3_clear_6 : decode cX3_clear 6 = .ok (.iload_n 2, 1) := by decide +kernel
theorem dX3_clear_7 : decode cX3_clear 7 = .ok (.putfield 19, 3) := by decide +kernel
theorem dX3_clear_10 : decode cX3_clear 10 = .ok (.iconst 0, 1) := by decide +kernel
theorem dX3_clear_11 : decode cX3_clear 11 = .ok (.istore_n 3, 1) := by decide +kernel
theorem dX3_clear_12 : decode cX3_clear 12 = .ok (.iload_n 3, 1) := by decide +kernel
theorem dX3_clear_13 : decode cX3_clear 13 = .ok (.bipush 24, 2) := by decide +kernel
theorem dX3_clear_15 : decode cX3_clear 15 = .ok (.if_icmp .ge 16, 3) := by decide +kernel
theorem dX3_clear_18 : decode cX3_clear 18 = .ok (.aload_n 0, 1) := by decide +kernel
theorem dX3_clear_19 : decode cX3_clear 19 = .ok (.getfield 15, 3) := by decide +kernel
theorem dX3_clear_22 : decode cX3_clear 22 = .ok (.iload_n 3, 1) := by decide +kernel
theorem dX3_clear_23 : decode cX3_clear 23 = .ok (.iconst 0, 1) := by decide +kernel
theorem dX3_clear_24 : decode cX3_clear 24 = .ok (.iastore, 1) := by decide +kernel
theorem dX3_clear_25 : decode cX3_clear 25 = .ok (.iinc 3 1, 3) := by decide +kernel
theorem dX3_clear_28 : decode cX3_clear 28 = .ok (.goto (-16), 3) := by decide +kernel
theorem dX3_clear_31 : decode cX3_clear 31 = .ok (.return_, 1) := by decide +kernel
theorem dX3_become_0 : decode cX3_become 0 = .ok (.aload_n 0, 1) := by decide +kernel
theorem dX3_become_1 : decode cX3_become 1 = .ok (.aload_n 1, 1) := by decide +kernel
theorem dX3_become_2 : decode cX3_become 2 = .ok (.getfield 9, 3) := by decide +kernel
theorem dX3_become_5 : decode cX3_become 5 = .ok (.putfield 9, 3) := by decide +kernel
theorem dX3_become_8 : decode cX3_become 8 = .ok (.aload_n 0, 1) := by decide +kernel
theorem dX3_become_9 : decode cX3_become 9 = .ok (.aload_n 1, 1) := by decide +kernel
theorem dX3_become_10 : decode cX3_become 10 = .ok (.getfield 19, 3) := by decide +kernel
theorem dX3_become_13 : decode cX3_become 13 = .ok (.putfield 19, 3) := by decide +kernel
theorem dX3_become_16 : decode cX3_become 16 = .ok (.aload_n 1, 1) := by decide +kernel
theorem dX3_become_17 : decode cX3_become 17 = .ok (.getfield 15, 3) := by decide +kernel
theorem dX3_become_20 : decode cX3_become 20 = .ok (.iconst 0, 1) := by decide +kernel
theorem dX3_become_21 : decode cX3_become 21 = .ok (.aload_n 0, 1) := by decide +kernel
theorem dX3_become_22 : decode cX3_become 22 = .ok (.getfield 15, 3) := by decide +kernel
theorem dX3_become_25 : decode cX3_become 25 = .ok (.iconst 0, 1) := by decide +kernel
theorem dX3_become_26 : decode cX3_become 26 = .ok (.bipush 24, 2) := by decide +kernel
theorem dX3_become_28 : decode cX3_become 28 = .ok (.invokestatic 22, 3) := by decide +kernel
theorem dX3_become_31 : decode cX3_become 31 = .ok (.return_, 1) := by decide +kernel
theorem dX3_hasPlace_0 : decode cX3_hasPlace 0 = .ok (.iload_n 1, 1) := by decide +kernel
theorem dX3_hasPlace_1 : decode cX3_hasPlace 1 = .ok (.iconst 0, 1) := by decide +kernel
theorem dX3_hasPlace_2 : decode cX3_hasPlace 2 = .ok (.aload_n 0, 1) := by decide +kernel
theorem dX3_hasPlace_3 : decode cX3_hasPlace 3 = .ok (.getfield 19, 3) := by decide +kernel
theorem dX3_hasPlace_6 : decode cX3_hasPlace 6 = .ok (.iconst 1, 1) := by decide +kernel
theorem dX3_hasPlace_7 : decode cX3_hasPlace 7 = .ok (.isub, 1) := by decide +kernel
theorem dX3_hasPlace_8 : decode cX3_hasPlace 8 = .ok (.invokestatic 28, 3) := by decide +kernel
theorem dX3_hasPlace_11 : decode cX3_hasPlace 11 = .ok (.ireturn, 1) := by decide +kernel
theorem dX3_hasPlaces_0 : decode cX3_hasPlaces 0 = .ok (.iload_n 1, 1) := by decide +kernel
theorem dX3_hasPlaces_1 : decode cX3_hasPlaces 1 = .ok (.iconst 0, 1) := by decide +kernel
theorem dX3_hasPlaces_2 : decode cX3_hasPlaces 2 = .ok (.aload_n 0, 1) := by decide +kernel
theorem dX3_hasPlaces_3 : decode cX3_hasPlaces 3 = .ok (.getfield 19, 3) := by decide +kernel
theorem dX3_hasPlaces_6 : decode cX3_hasPlaces 6 = .ok (.invokestatic 28, 3) := by decide +kernel
theorem dX3_hasPlaces_9 : decode cX3_hasPlaces 9 = .ok (.ifCond .eq 21, 3) := by decide +kernel
theorem dX3_hasPlaces_12 : decode cX3_hasPlaces 12 = .ok (.iload_n 2, 1) := by decide +kernel
theorem dX3_hasPlaces_13 : decode cX3_hasPlaces 13 = .ok (.iconst 0, 1) := by decide +kernel
theorem dX3_hasPlaces_14 : decode cX3_hasPlaces 14 = .ok (.aload_n 0, 1) := by decide +kernel
theorem dX3_hasPlaces_15 : decode cX3_hasPlaces 15 = .ok (.getfield 19, 3) := by decide +kernel
theorem dX3_hasPlaces_18 : decode cX3_hasPlaces 18 = .ok (.iload_n 1, 1) := by decide +kernel
theorem dX3_hasPlaces_19 : decode cX3_hasPlaces 19 = .ok (.isub, 1) := by decide +kernel
theorem dX3_hasPlaces_20 : decode cX3_hasPlaces 20 = .ok (.invokestatic 28, 3) := by decide +kernel
theorem dX3_hasPlaces_23 : decode cX3_hasPlaces 23 = .ok (.ifCond .eq 7, 3) := by decide +kernel
theorem dX3_hasPlaces_26 : decode cX3_hasPlaces 26 = .ok (.iconst 1, 1) := by decide +kernel
theorem dX3_hasPlaces_27 : decode cX3_hasPlaces 27 = .ok (.goto 4, 3) := by decide +kernel
theorem dX3_hasPlaces_30 : decode cX3_hasPlaces 30 = .ok (.iconst 0, 1) := by decide +kernel
theorem dX3_hasPlaces_31 : decode cX3_hasPlaces 31 = .ok (.ireturn, 1) := by decide +kernel
theorem dX4_init_0 : decode cX4_init 0 = .ok (.aload_n 0, 1) := by decide +kernel
theorem dX4_init_1 : decode cX4_init 1 = .ok (.invokespecial 3, 3) := by decide +kernel
theorem dX4_init_4 : decode cX4_init 4 = .ok (.aload_n 0, 1) := by decide +kernel
theorem dX4_init_5 : decode cX4_init 5 = .ok (.iconst (-1), 1) := by decide +kernel
theorem dX4_init_6 : decode cX4_init 6 = .ok (.putfield 9, 3) := by decide +kernel
theorem dX4_init_9 : decode cX4_init 9 = .ok (.return_, 1) := by decide +kernel
theorem dX4_begin_0 : decode cX4_begin 0 = .ok (.aload_n 0, 1) := by decide +kernel
theorem dX4_begin_1 : decode cX4_begin 1 = .ok (.iload_n 1, 1) := by decide +kernel
theorem dX4_begin_2 : decode cX4_begin 2 = .ok (.putfield 15, 3) := by decide +kernel
theorem dX4_begin_5 : decode cX4_begin 5 = .ok (.aload_n 0, 1) := by decide +kernel
theorem dX4_begin_6 : decode cX4_begin 6 = .ok (.iconst (-1), 1) := by decide +kernel
theorem dX4_begin_7 : decode cX4_begin 7 = .ok (.putfield 9, 3) := by decide +kernel
theorem dX4_begin_10 : decode cX4_begin 10 = .ok (.aload_n 0, 1) := by decide +kernel
theorem dX4_begin_11 : decode cX4_begin 11 = .ok (.iconst 0, 1) := by decide +kernel
theorem dX4_begin_12 : decode cX4_begin 12 = .ok (.putfield 18, 3) := by decide +kernel
theorem dX4_begin_15 : decode cX4_begin 15 = .ok (.aload_n 0, 1) := by decide +kernel
theorem dX4_begin_16 : decode cX4_begin 16 = .ok (.iconst 0, 1) := by decide +kernel
theorem dX4_begin_17 : decode cX4_begin 17 = .ok (.putfield 21, 3) := by decide +kernel
theorem dX4_begin_20 : decode cX4_begin 20 = .ok (.return_, 1) := by decide +kernel
theorem dX4_become_0 : decode cX4_become 0 = .ok (.aload_n 0, 1) := by decide +kernel
theorem dX4_become_1 : decode cX4_become 1 = .ok (.aload_n 1, 1) := by decide +kernel
theorem dX4_become_2 : decode cX4_become 2 = .ok (.getfield 15, 3) := by decide +kernel
theorem dX4_become_5 : decode cX4_become 5 = .ok (.putfield 15, 3) := by decide +kernel
theorem dX4_become_8 : decode cX4_become 8 = .ok (.aload_n 0, 1) := by decide +kernel
theorem dX4_become_9 : decode cX4_become 9 = .ok (.aload_n 1, 1) := by decide +kernel
theorem dX4_become_10 : decode cX4_become 10 = .ok (.getfield 9, 3) := by decide +kernel
theorem dX4_become_13 : decode cX4_become 13 = .ok (.putfield 9, 3) := by decide +kernel
theorem dX4_become_16 : decode cX4_become 16 = .ok (.aload_n 0, 1) := by decide +kernel
theorem dX4_become_17 : decode cX4_become 17 = .ok (.aload_n 1, 1) := by decide +kernel
theorem dX4_become_18 : decode cX4_become 18 = .ok (.getfield 18, 3) := by decide +kernel
theorem dX4_become_21 : decode cX4_become 21 = .ok (.putfield 18, 3) := by decide +kernel
theorem dX4_become_24 : decode cX4_become 24 = .ok (.aload_n 0, 1) := by decide +kernel
theorem dX4_become_25 : decode cX4_become 25 = .ok (.aload_n 1, 1) := by decide +kernel
theorem dX4_become_26 : decode cX4_become 26 = .ok (.getfield 21, 3) := by decide +kernel
theorem dX4_become_29 : decode cX4_become 29 = .ok (.putfield 21, 3) := by decide +kernel
theorem dX4_become_32 : decode cX4_become 32 = .ok (.return_, 1) := by decide +kernel
theorem dX4_sitsNow_0 : decode cX4_sitsNow 0 = .ok (.aload_n 0, 1) := by decide +kernel
theorem dX4_sitsNow_1 : decode cX4_sitsNow 1 = .ok (.getfield 9, 3) := by decide +kernel
theorem dX4_sitsNow_4 : decode cX4_sitsNow 4 = .ok (.ifCond .lt 7, 3) := by decide +kernel
theorem dX4_sitsNow_7 : decode cX4_sitsNow 7 = .ok (.iconst 1, 1) := by decide +kernel
theorem dX4_sitsNow_8 : decode cX4_sitsNow 8 = .ok (.goto 4, 3) := by decide +kernel
theorem dX4_sitsNow_11 : decode cX4_sitsNow 11 = .ok (.iconst 0, 1) := by decide +kernel
theorem dX4_sitsNow_12 : decode cX4_sitsNow 12 = .ok (.ireturn, 1) := by decide +kernel
theorem dX4_isOf_0 : decode cX4_isOf 0 = .ok (.getstatic 24, 3) := by decide +kernel
theorem dX4_isOf_3 : decode cX4_isOf 3 = .ok (.iload_n 1, 1) := by decide +kernel
theorem dX4_isOf_4 : decode cX4_isOf 4 = .ok (.iaload, 1) := by decide +kernel
theorem dX4_isOf_5 : decode cX4_isOf 5 = .ok (.aload_n 0, 1) := by decide +kernel
theorem dX4_isOf_6 : decode cX4_isOf 6 = .ok (.getfield 15, 3) := by decide +kernel
theorem dX4_isOf_9 : decode cX4_isOf 9 = .ok (.ishr, 1) := by decide +kernel
theorem dX4_isOf_10 : decode cX4_isOf 10 = .ok (.iconst 1, 1) := by decide +kernel
theorem dX4_isOf_11 : decode cX4_isOf 11 = .ok (.iand, 1) := by decide +kernel
theorem dX4_isOf_12 : decode cX4_isOf 12 = .ok (.iconst 1, 1) := by decide +kernel
theorem dX4_isOf_13 : decode cX4_isOf 13 = .ok (.if_icmp .ne 7, 3) := by decide +kernel
theorem dX4_isOf_16 : decode cX4_isOf 16 = .ok (.iconst 1, 1) := by decide +kernel
theorem dX4_isOf_17 : decode cX4_isOf 17 = .ok (.goto 4, 3) := by decide +kernel
theorem dX4_isOf_20 : decode cX4_isOf 20 = .ok (.iconst 0, 1) := by decide +kernel
theorem dX4_isOf_21 : decode cX4_isOf 21 = .ok (.ireturn, 1) := by decide +kernel
theorem dX4_worth_0 : decode cX4_worth 0 = .ok (.aload_n 0, 1) := by decide +kernel
theorem dX4_worth_1 : decode cX4_worth 1 = .ok (.getfield 15, 3) := by decide +kernel
theorem dX4_worth_4 : decode cX4_worth 4 = .ok (.tableswitch 74 1 5 #[36, 54, 44, 62, 72], 36) := by decide +kernel
theorem dX4_worth_40 : decode cX4_worth 40 = .ok (.aload_n 0, 1) := by decide +kernel
theorem dX4_worth_41 : decode cX4_worth 41 = .ok (.getfield 21, 3) := by decide +kernel
theorem dX4_worth_44 : decode cX4_worth 44 = .ok (.bipush 6, 2) := by decide +kernel
theorem dX4_worth_46 : decode cX4_worth 46 = .ok (.iadd, 1) := by decide +kernel
theorem dX4_worth_47 : decode cX4_worth 47 = .ok (.ireturn, 1) := by decide +kernel
theorem dX4_worth_48 : decode cX4_worth 48 = .ok (.iconst 2, 1) := by decide +kernel
theorem dX4_worth_49 : decode cX4_worth 49 = .ok (.aload_n 0, 1) := by decide +kernel
theorem dX4_worth_50 : decode cX4_worth 50 = .ok (.getfield 21, 3) := by decide +kernel
theorem dX4_worth_53 : decode cX4_worth 53 = .ok (.bipush 6, 2) := by decide +kernel
theorem dX4_worth_55 : decode cX4_worth 55 = .ok (.iadd, 1) := by decide +kernel
theorem dX4_worth_56 : decode cX4_worth 56 = .ok (.imul, 1) := by decide +kernel
theorem dX4_worth_57 : decode cX4_worth 57 = .ok (.ireturn, 1) := by decide +kernel
theorem dX4_worth_58 : decode cX4_worth 58 = .ok (.bipush 99, 2) := by decide +kernel
theorem dX4_worth_60 : decode cX4_worth 60 = .ok (.aload_n 0, 1) := by decide +kernel
theorem dX4_worth_61 : decode cX4_worth 61 = .ok (.getfield 21, 3) := by decide +kernel
theorem dX4_worth_64 : decode cX4_worth 64 = .ok (.isub, 1) := by decide +kernel
theorem dX4_worth_65 : decode cX4_worth 65 = .ok (.ireturn, 1) := by decide +kernel
theorem dX4_worth_66 : decode cX4_worth 66 = .ok (.bipush 99, 2) := by decide +kernel
theorem dX4_worth_68 : decode cX4_worth 68 = .ok (.aload_n 0, 1) := by decide +kernel
theorem dX4_worth_69 : decode cX4_worth 69 = .ok (.getfield 21, 3) := by decide +kernel
theorem dX4_worth_72 : decode cX4_worth 72 = .ok (.isub, 1) := by decide +kernel
theorem dX4_worth_73 : decode cX4_worth 73 = .ok (.iconst 4, 1) := by decide +kernel
theorem dX4_worth_74 : decode cX4_worth 74 = .ok (.isub, 1) := by decide +kernel
theorem dX4_worth_75 : decode cX4_worth 75 = .ok (.ireturn, 1) := by decide +kernel
theorem dX4_worth_76 : decode cX4_worth 76 = .ok (.iconst 3, 1) := by decide +kernel
theorem dX4_worth_77 : decode cX4_worth 77 = .ok (.ireturn, 1) := by decide +kernel
theorem dX4_worth_78 : decode cX4_worth 78 = .ok (.aload_n 0, 1) := by decide +kernel
theorem dX4_worth_79 : decode cX4_worth 79 = .ok (.getfield 21, 3) := by decide +kernel
theorem dX4_worth_82 : decode cX4_worth 82 = .ok (.ireturn, 1) := by decide +kernel
theorem dX4_share_0 : decode cX4_share 0 = .ok (.aload_n 0, 1) := by decide +kernel
theorem dX4_share_1 : decode cX4_share 1 = .ok (.getfield 15, 3) := by decide +kernel
theorem dX4_share_4 : decode cX4_share 4 = .ok (.tableswitch 52 1 4 #[32, 42, 36, 46], 32) := by decide +kernel
theorem dX4_share_36 : decode cX4_share 36 = .ok (.iconst 2, 1) := by decide +kernel
theorem dX4_share_37 : decode cX4_share 37 = .ok (.iload_n 1, 1) := by decide +kernel
theorem dX4_share_38 : decode cX4_share 38 = .ok (.imul, 1) := by decide +kernel
theorem dX4_share_39 : decode cX4_share 39 = .ok (.ireturn, 1) := by decide +kernel
theorem dX4_share_40 : decode cX4_share 40 = .ok (.iconst 2, 1) := by decide +kernel
theorem dX4_share_41 : decode cX4_share 41 = .ok (.iload_n 1, 1) := by decide +kernel
theorem dX4_share_42 : decode cX4_share 42 = .ok (.imul, 1) := by decide +kernel
theorem dX4_share_43 : decode cX4_share 43 = .ok (.iconst 1, 1) := by decide +kernel
theorem dX4_share_44 : decode cX4_share 44 = .ok (.iadd, 1) := by decide +kernel
theorem dX4_share_45 : decode cX4_share 45 = .ok (.ireturn, 1) := by decide +kernel
theorem dX4_share_46 : decode cX4_share 46 = .ok (.iload_n 1, 1) := by decide +kernel
theorem dX4_share_47 : decode cX4_share 47 = .ok (.iconst 2, 1) := by decide +kernel
theorem dX4_share_48 : decode cX4_share 48 = .ok (.isub, 1) := by decide +kernel
theorem dX4_share_49 : decode cX4_share 49 = .ok (.ireturn, 1) := by decide +kernel
theorem dX4_share_50 : decode cX4_share 50 = .ok (.iload_n 1, 1) := by decide +kernel
theorem dX4_share_51 : decode cX4_share 51 = .ok (.iconst 2, 1) := by decide +kernel
theorem dX4_share_52 : decode cX4_share 52 = .ok (.isub, 1) := by decide +kernel
theorem dX4_share_53 : decode cX4_share 53 = .ok (.iconst 2, 1) := by decide +kernel
theorem dX4_share_54 : decode cX4_share 54 = .ok (.idiv, 1) := by decide +kernel
theorem dX4_share_55 : decode cX4_share 55 = .ok (.ireturn, 1) := by decide +kernel
theorem dX4_share_56 : decode cX4_share 56 = .ok (.iload_n 1, 1) := by decide +kernel
theorem dX4_share_57 : decode cX4_share 57 = .ok (.ireturn, 1) := by decide +kernel
theorem dX5_init_0 : decode cX5_init 0 = .ok (.aload_n 0, 1) := by decide +kernel
theorem dX5_init_1 : decode cX5_init 1 = .ok (.invokespecial 1, 3) := by decide +kernel
theorem dX5_init_4 : decode cX5_init 4 = .ok (.aload_n 0, 1) := by decide +kernel
theorem dX5_init_5 : decode cX5_init 5 = .ok (.new 7, 3) := by decide +kernel
theorem dX5_init_8 : decode cX5_init 8 = .ok (.dup, 1) := by decide +kernel
theorem dX5_init_9 : decode cX5_init 9 = .ok (.invokespecial 9, 3) := by decide +kernel
theorem dX5_init_12 : decode cX5_init 12 = .ok (.putfield 10, 3) := by decide +kernel
theorem dX5_init_15 : decode cX5_init 15 = .ok (.aload_n 0, 1) := by decide +kernel
theorem dX5_init_16 : decode cX5_init 16 = .ok (.new 16, 3) := by decide +kernel
theorem dX5_init_19 : decode cX5_init 19 = .ok (.dup, 1) := by decide +kernel
theorem dX5_init_20 : decode cX5_init 20 = .ok (.invokespecial 18, 3) := by decide +kernel
theorem dX5_init_23 : decode cX5_init 23 = .ok (.putfield 19, 3) := by decide +kernel
theorem dX5_init_26 : decode cX5_init 26 = .ok (.return_, 1) := by decide +kernel
theorem dX6_init_0 : decode cX6_init 0 = .ok (.aload_n 0, 1) := by decide +kernel
theorem dX6_init_1 : decode cX6_init 1 = .ok (.invokespecial 3, 3) := by decide +kernel
theorem dX6_init_4 : decode cX6_init 4 = .ok (.aload_n 0, 1) := by decide +kernel
theorem dX6_init_5 : decode cX6_init 5 = .ok (.bipush 96, 2) := by decide +kernel
theorem dX6_init_7 : decode cX6_init 7 = .ok (.newarray .int, 2) := by decide +kernel
theorem dX6_init_9 : decode cX6_init 9 = .ok (.putfield 9, 3) := by decide +kernel
theorem dX6_init_12 : decode cX6_init 12 = .ok (.aload_n 0, 1) := by decide +kernel
theorem dX6_init_13 : decode cX6_init 13 = .ok (.bipush 96, 2) := by decide +kernel
theorem dX6_init_15 : decode cX6_init 15 = .ok (.newarray .int, 2) := by decide +kernel
theorem dX6_init_17 : decode cX6_init 17 = .ok (.putfield 15, 3) := by decide +kernel
theorem dX6_init_20 : decode cX6_init 20 = .ok (.aload_n 0, 1) := by decide +kernel
theorem dX6_init_21 : decode cX6_init 21 = .ok (.bipush 96, 2) := by decide +kernel
theorem dX6_init_23 : decode cX6_init 23 = .ok (.newarray .int, 2) := by decide +kernel
theorem dX6_init_25 : decode cX6_init 25 = .ok (.putfield 18, 3) := by decide +kernel
theorem dX6_init_28 : decode cX6_init 28 = .ok (.return_, 1) := by decide +kernel
theorem dX6_append_0 : decode cX6_append 0 = .ok (.bipush 24, 2) := by decide +kernel
theorem dX6_append_2 : decode cX6_append 2 = .ok (.istore_n 2, 1) := by decide +kernel
theorem dX6_append_3 : decode cX6_append 3 = .ok (.iload_n 2, 1) := by decide +kernel
theorem dX6_append_4 : decode cX6_append 4 = .ok (.ifCond .lt 44, 3) := by decide +kernel
theorem dX6_append_7 : decode cX6_append 7 = .ok (.aload_n 0, 1) := by decide +kernel
theorem dX6_append_8 : decode cX6_append 8 = .ok (.getfield 21, 3) := by decide +kernel
theorem dX6_append_11 : decode cX6_append 11 = .ok (.bipush 96, 2) := by decide +kernel
theorem dX6_append_13 : decode cX6_append 13 = .ok (.if_icmp .ge 35, 3) := by decide +kernel
theorem dX6_append_16 : decode cX6_append 16 = .ok (.aload_n 0, 1) := by decide +kernel
theorem dX6_append_17 : decode cX6_append 17 = .ok (.getfield 9, 3) := by decide +kernel
theorem dX6_append_20 : decode cX6_append 20 = .ok (.aload_n 0, 1) := by decide +kernel
theorem dX6_append_21 : decode cX6_append 21 = .ok (.getfield 21, 3) := by decide +kernel
theorem dX6_append_24 : decode cX6_append 24 = .ok (.iload_n 1, 1) := by decide +kernel
theorem dX6_append_25 : decode cX6_append 25 = .ok (.iload_n 2, 1) := by decide +kernel
theorem dX6_append_26 : decode cX6_append 26 = .ok (.ishr, 1) := by decide +kernel
theorem dX6_append_27 : decode cX6_append 27 = .ok (.sipush 255, 3) := by decide +kernel
theorem dX6_append_30 : decode cX6_append 30 = .ok (.iand, 1) := by decide +kernel
theorem dX6_append_31 : decode cX6_append 31 = .ok (.iastore, 1) := by decide +kernel
theorem dX6_append_32 : decode cX6_append 32 = .ok (.aload_n 0, 1) := by decide +kernel
theorem dX6_append_33 : decode cX6_append 33 = .ok (.dup, 1) := by decide +kernel
theorem dX6_append_34 : decode cX6_append 34 = .ok (.getfield 21, 3) := by decide +kernel
theorem dX6_append_37 : decode cX6_append 37 = .ok (.iconst 1, 1) := by decide +kernel
theorem dX6_append_38 : decode cX6_append 38 = .ok (.iadd, 1) := by decide +kernel
theorem dX6_append_39 : decode cX6_append 39 = .ok (.putfield 21, 3) := by decide +kernel
theorem dX6_append_42 : decode cX6_append 42 = .ok (.iinc 2 (-8), 3) := by decide +kernel
theorem dX6_append_45 : decode cX6_append 45 = .ok (.goto (-42), 3) := by decide +kernel
theorem dX6_append_48 : decode cX6_append 48 = .ok (.return_, 1) := by decide +kernel
theorem dX6_lawRead_0 : decode cX6_lawRead 0 = .ok (.aload_n 0, 1) := by decide +kernel
theorem dX6_lawRead_1 : decode cX6_lawRead 1 = .ok (.getfield 25, 3) := by decide +kernel
theorem dX6_lawRead_4 : decode cX6_lawRead 4 = .ok (.newarray .int, 2) := by decide +kernel
theorem dX6_lawRead_6 : decode cX6_lawRead 6 = .ok (.astore_n 1, 1) := by decide +kernel
theorem dX6_lawRead_7 : decode cX6_lawRead 7 = .ok (.aload_n 0, 1) := by decide +kernel
theorem dX6_lawRead_8 : decode cX6_lawRead 8 = .ok (.getfield 15, 3) := by decide +kernel
theorem dX6_lawRead_11 : decode cX6_lawRead 11 = .ok (.iconst 0, 1) := by decide +kernel
theorem dX6_lawRead_12 : decode cX6_lawRead 12 = .ok (.aload_n 1, 1) := by decide +kernel
theorem dX6_lawRead_13 : decode cX6_lawRead 13 = .ok (.iconst 0, 1) := by decide +kernel
theorem dX6_lawRead_14 : decode cX6_lawRead 14 = .ok (.aload_n 0, 1) := by decide +kernel
theorem dX6_lawRead_15 : decode cX6_lawRead 15 = .ok (.getfield 25, 3) := by decide +kernel
theorem dX6_lawRead_18 : decode cX6_lawRead 18 = .ok (.invokestatic 28, 3) := by decide +kernel
theorem dX6_lawRead_21 : decode cX6_lawRead 21 = .ok (.new 34, 3) := by decide +kernel
theorem dX6_lawRead_24 : decode cX6_lawRead 24 = .ok (.dup, 1) := by decide +kernel
theorem dX6_lawRead_25 : decode cX6_lawRead 25 = .ok (.aload_n 0, 1) := by decide +kernel
theorem dX6_lawRead_26 : decode cX6_lawRead 26 = .ok (.getfield 36, 3) := by decide +kernel
theorem dX6_lawRead_29 : decode cX6_lawRead 29 = .ok (.aload_n 0, 1) := by decide +kernel
theorem dX6_lawRead_30 : decode cX6_lawRead 30 = .ok (.getfield 39, 3) := by decide +kernel
theorem dX6_lawRead_33 : decode cX6_lawRead 33 = .ok (.aload_n 1, 1) := by decide +kernel
theorem dX6_lawRead_34 : decode cX6_lawRead 34 = .ok (.invokespecial 42, 3) := by decide +kernel
theorem dX6_lawRead_37 : decode cX6_lawRead 37 = .ok (.areturn, 1) := by decide +kernel
theorem dX6_parse_0 : decode cX6_parse 0 = .ok (.aload_n 0, 1) := by decide +kernel
theorem dX6_parse_1 : decode cX6_parse 1 = .ok (.invokevirtual 45, 3) := by decide +kernel
theorem dX6_parse_4 : decode cX6_parse 4 = .ok (.aload_n 0, 1) := by decide +kernel
theorem dX6_parse_5 : decode cX6_parse 5 = .ok (.invokevirtual 48, 3) := by decide +kernel
theorem dX6_parse_8 : decode cX6_parse 8 = .ok (.aload_n 0, 1) := by decide +kernel
theorem dX6_parse_9 : decode cX6_parse 9 = .ok (.aload_n 0, 1) := by decide +kernel
theorem dX6_parse_10 : decode cX6_parse 10 = .ok (.invokevirtual 51, 3) := by decide +kernel
theorem dX6_parse_13 : decode cX6_parse 13 = .ok (.putfield 36, 3) := by decide +kernel
theorem dX6_parse_16 : decode cX6_parse 16 = .ok (.aload_n 0, 1) := by decide +kernel
theorem dX6_parse_17 : decode cX6_parse 17 = .ok (.getfield 36, 3) := by decide +kernel
theorem dX6_parse_20 : decode cX6_parse 20 = .ok (.ifCond .ge 8, 3) := by decide +kernel
theorem dX6_parse_23 : decode cX6_parse 23 = .ok (.aload_n 0, 1) := by decide +kernel
theorem dX6_parse_24 : decode cX6_parse 24 = .ok (.getfield 55, 3) := by decide +kernel
theorem dX6_parse_27 : decode cX6_parse 27 = .ok (.ireturn, 1) := by decide +kernel
theorem dX6_parse_28 : decode cX6_parse 28 = .ok (.iconst 0, 1) := by decide +kernel
theorem dX6_parse_29 : decode cX6_parse 29 = .ok (.istore_n 1, 1) := by decide +kernel
theorem dX6_parse_30 : decode cX6_parse 30 = .ok (.iload_n 1, 1) := by decide +kernel
theorem dX6_parse_31 : decode cX6_parse 31 = .ok (.bipush 96, 2) := by decide +kernel
theorem dX6_parse_33 : decode cX6_parse 33 = .ok (.if_icmp .gt 52, 3) := by decide +kernel
theorem dX6_parse_36 : decode cX6_parse 36 = .ok (.aload_n 0, 1) := by decide +kernel
theorem dX6_parse_37 : decode cX6_parse 37 = .ok (.invokevirtual 48, 3) := by decide +kernel
theorem dX6_parse_40 : decode cX6_parse 40 = .ok (.aload_n 0, 1) := by decide +kernel
theorem dX6_parse_41 : decode cX6_parse 41 = .ok (.getfield 58, 3) := by decide +kernel
theorem dX6_parse_44 : decode cX6_parse 44 = .ok (.ifCond .ne 6, 3) := by decide +kernel
theorem dX6_parse_47 : decode cX6_parse 47 = .ok (.goto 38, 3) := by decide +kernel
theorem dX6_parse_50 : decode cX6_parse 50 = .ok (.aload_n 0, 1) := by decide +kernel
theorem dX6_parse_51 : decode cX6_parse 51 = .ok (.getfield 61, 3) := by decide +kernel
theorem dX6_parse_54 : decode cX6_parse 54 = .ok (.ifCond .eq 13, 3) := by decide +kernel
theorem dX6_parse_57 : decode cX6_parse 57 = .ok (.aload_n 0, 1) := by decide +kernel
theorem dX6_parse_58 : decode cX6_parse 58 = .ok (.invokevirtual 65, 3) := by decide +kernel
theorem dX6_parse_61 : decode cX6_parse 61 = .ok (.ifCond .eq 13, 3) := by decide +kernel
theorem dX6_parse_64 : decode cX6_parse 64 = .ok (.goto 15, 3) := by decide +kernel
theorem dX6_parse_67 : decode cX6_parse 67 = .ok (.aload_n 0, 1) := by decide +kernel
theorem dX6_parse_68 : decode cX6_parse 68 = .ok (.invokevirtual 69, 3) := by decide +kernel
theorem dX6_parse_71 : decode cX6_parse 71 = .ok (.ifCond .ne 8, 3) := by decide +kernel
theorem dX6_parse_74 : decode cX6_parse 74 = .ok (.aload_n 0, 1) := by decide +kernel
theorem dX6_parse_75 : decode cX6_parse 75 = .ok (.getfield 55, 3) := by decide +kernel
theorem dX6_parse_78 : decode cX6_parse 78 = .ok (.ireturn, 1) := by decide +kernel
theorem dX6_parse_79 : decode cX6_parse 79 = .ok (.iinc 1 1, 3) := by decide +kernel
theorem dX6_parse_82 : decode cX6_parse 82 = .ok (.goto (-52), 3) := by decide +kernel
theorem dX6_parse_85 : decode cX6_parse 85 = .ok (.aload_n 0, 1) := by decide +kernel
theorem dX6_parse_86 : decode cX6_parse 86 = .ok (.getfield 61, 3) := by decide +kernel
theorem dX6_parse_89 : decode cX6_parse 89 = .ok (.ifCond .ne 10, 3) := by decide +kernel
theorem dX6_parse_92 : decode cX6_parse 92 = .ok (.aload_n 0, 1) := by decide +kernel
theorem dX6_parse_93 : decode cX6_parse 93 = .ok (.getfield 72, 3) := by decide +kernel
theorem dX6_parse_96 : decode cX6_parse 96 = .ok (.ifCond .le 8, 3) := by decide +kernel
theorem dX6_parse_99 : decode cX6_parse 99 = .ok (.aload_n 0, 1) := by decide +kernel
theorem dX6_parse_100 : decode cX6_parse 100 = .ok (.getfield 21, 3) := by decide +kernel
theorem dX6_parse_103 : decode cX6_parse 103 = .ok (.ireturn, 1) := by decide +kernel
theorem dX6_parse_104 : decode cX6_parse 104 = .ok (.aload_n 0, 1) := by decide +kernel
theorem dX6_parse_105 : decode cX6_parse 105 = .ok (.iconst 0, 1) := by decide +kernel
theorem dX6_parse_106 : decode cX6_parse 106 = .ok (.invokevirtual 75, 3) := by decide +kernel
theorem dX6_parse_109 : decode cX6_parse 109 = .ok (.iconst (-1), 1) := by decide +kernel
theorem dX6_parse_110 : decode cX6_parse 110 = .ok (.ireturn, 1) := by decide +kernel
theorem dX6_begin_0 : decode cX6_begin 0 = .ok (.aload_n 0, 1) := by decide +kernel
theorem dX6_begin_1 : decode cX6_begin 1 = .ok (.iconst 0, 1) := by decide +kernel
theorem dX6_begin_2 : decode cX6_begin 2 = .ok (.putfield 58, 3) := by decide +kernel
theorem dX6_begin_5 : decode cX6_begin 5 = .ok (.aload_n 0, 1) := by decide +kernel
theorem dX6_begin_6 : decode cX6_begin 6 = .ok (.iconst 0, 1) := by decide +kernel
theorem dX6_begin_7 : decode cX6_begin 7 = .ok (.putfield 55, 3) := by decide +kernel
theorem dX6_begin_10 : decode cX6_begin 10 = .ok (.aload_n 0, 1) := by decide +kernel
theorem dX6_begin_11 : decode cX6_begin 11 = .ok (.iconst 0, 1) := by decide +kernel
theorem dX6_begin_12 : decode cX6_begin 12 = .ok (.putfield 79, 3) := by decide +kernel
theorem dX6_begin_15 : decode cX6_begin 15 = .ok (.aload_n 0, 1) := by decide +kernel
theorem dX6_begin_16 : decode cX6_begin 16 = .ok (.iconst 1, 1) := by decide +kernel
theorem dX6_begin_17 : decode cX6_begin 17 = .ok (.putfield 61, 3) := by decide +kernel
theorem dX6_begin_20 : decode cX6_begin 20 = .ok (.aload_n 0, 1) := by decide +kernel
theorem dX6_begin_21 : decode cX6_begin 21 = .ok (.iconst 0, 1) := by decide +kernel
theorem dX6_begin_22 : decode cX6_begin 22 = .ok (.putfield 25, 3) := by decide +kernel
theorem dX6_begin_25 : decode cX6_begin 25 = .ok (.aload_n 0, 1) := by decide +kernel
theorem dX6_begin_26 : decode cX6_begin 26 = .ok (.iconst 0, 1) := by decide +kernel
theorem dX6_begin_27 : decode cX6_begin 27 = .ok (.putfield 39, 3) := by decide +kernel
theorem dX6_begin_30 : decode cX6_begin 30 = .ok (.aload_n 0, 1) := by decide +kernel
theorem dX6_begin_31 : decode cX6_begin 31 = .ok (.iconst 0, 1) := by decide +kernel
theorem dX6_begin_32 : decode cX6_begin 32 = .ok (.putfield 82, 3) := by decide +kernel
theorem dX6_begin_35 : decode cX6_begin 35 = .ok (.aload_n 0, 1) := by decide +kernel
theorem dX6_begin_36 : decode cX6_begin 36 = .ok (.iconst 0, 1) := by decide +kernel
theorem dX6_begin_37 : decode cX6_begin 37 = .ok (.putfield 72, 3) := by decide +kernel
theorem dX6_begin_40 : decode cX6_begin 40 = .ok (.aload_n 0, 1) := by decide +kernel
theorem dX6_begin_41 : decode cX6_begin 41 = .ok (.iconst 0, 1) := by decide +kernel
theorem dX6_begin_42 : decode cX6_begin 42 = .ok (.putfield 85, 3) := by decide +kernel
theorem dX6_begin_45 : decode cX6_begin 45 = .ok (.return_, 1) := by decide +kernel
theorem dX6_advance_0 : decode cX6_advance 0 = .ok (.aload_n 0, 1) := by decide +kernel
theorem dX6_advance_1 : decode cX6_advance 1 = .ok (.getfield 58, 3) := by decide +kernel
theorem dX6_advance_4 : decode cX6_advance 4 = .ok (.iconst 1, 1) := by decide +kernel
theorem dX6_advance_5 : decode cX6_advance 5 = .ok (.if_icmp .eq 11, 3) := by decide +kernel
theorem dX6_advance_8 : decode cX6_advance 8 = .ok (.aload_n 0, 1) := by decide +kernel
theorem dX6_advance_9 : decode cX6_advance 9 = .ok (.getfield 58, 3) := by decide +kernel
theorem dX6_advance_12 : decode cX6_advance 12 = .ok (.iconst 2, 1) := by decide +kernel
theorem dX6_advance_13 : decode cX6_advance 13 = .ok (.if_icmp .ne 7, 3) := by decide +kernel
theorem dX6_advance_16 : decode cX6_advance 16 = .ok (.iconst 1, 1) := by decide +kernel
theorem dX6_advance_17 : decode cX6_advance 17 = .ok (.goto 4, 3) := by decide +kernel
theorem dX6_advance_20 : decode cX6_advance 20 = .ok (.iconst 0, 1) := by decide +kernel
theorem dX6_advance_21 : decode cX6_advance 21 = .ok (.istore_n 1, 1) := by decide +kernel
theorem dX6_advance_22 : decode cX6_advance 22 = .ok (.aload_n 0, 1) := by decide +kernel
theorem dX6_advance_23 : decode cX6_advance 23 = .ok (.aload_n 0, 1) := by decide +kernel
theorem dX6_advance_24 : decode cX6_advance 24 = .ok (.getfield 79, 3) := by decide +kernel
theorem dX6_advance_27 : decode cX6_advance 27 = .ok (.putfield 55, 3) := by decide +kernel
theorem dX6_advance_30 : decode cX6_advance 30 = .ok (.aload_n 0, 1) := by decide +kernel
theorem dX6_advance_31 : decode cX6_advance 31 = .ok (.getfield 55, 3) := by decide +kernel
theorem dX6_advance_34 : decode cX6_advance 34 = .ok (.aload_n 0, 1) := by decide +kernel
theorem dX6_advance_35 : decode cX6_advance 35 = .ok (.getfield 21, 3) := by decide +kernel
theorem dX6_advance_38 : decode cX6_advance 38 = .ok (.if_icmp .ge 30, 3) := by decide +kernel
theorem dX6_advance_41 : decode cX6_advance 41 = .ok (.aload_n 0, 1) := by decide +kernel
theorem dX6_advance_42 : decode cX6_advance 42 = .ok (.getfield 9, 3) := by decide +kernel
theorem dX6_advance_45 : decode cX6_advance 45 = .ok (.aload_n 0, 1) := by decide +kernel
theorem dX6_advance_46 : decode cX6_advance 46 = .ok (.getfield 55, 3) := by decide +kernel
theorem dX6_advance_49 : decode cX6_advance 49 = .ok (.iaload, 1) := by decide +kernel
theorem dX6_advance_50 : decode cX6_advance 50 = .ok (.bipush 32, 2) := by decide +kernel
theorem dX6_advance_52 : decode cX6_advance 52 = .ok (.if_icmp .ne 16, 3) := by decide +kernel
theorem dX6_advance_55 : decode cX6_advance 55 = .ok (.aload_n 0, 1) := by decide +kernel
theorem dX6_advance_56 : decode cX6_advance 56 = .ok (.dup, 1) := by decide +kernel
theorem dX6_advance_57 : decode cX6_advance 57 = .ok (.getfield 55, 3) := by decide +kernel
theorem dX6_advance_60 : decode cX6_advance 60 = .ok (.iconst 1, 1) := by decide +kernel
theorem dX6_advance_61 : decode cX6_advance 61 = .ok (.iadd, 1) := by decide +kernel
theorem dX6_advance_62 : decode cX6_advance 62 = .ok (.putfield 55, 3) := by decide +kernel
theorem dX6_advance_65 : decode cX6_advance 65 = .ok (.goto (-35), 3) := by decide +kernel
theorem dX6_advance_68 : decode cX6_advance 68 = .ok (.iload_n 1, 1) := by decide +kernel
theorem dX6_advance_69 : decode cX6_advance 69 = .ok (.ifCond .eq 18, 3) := by decide +kernel
theorem dX6_advance_72 : decode cX6_advance 72 = .ok (.aload_n 0, 1) := by decide +kernel
theorem dX6_advance_73 : decode cX6_advance 73 = .ok (.getfield 55, 3) := by decide +kernel
theorem dX6_advance_76 : decode cX6_advance 76 = .ok (.aload_n 0, 1) := by decide +kernel
theorem dX6_advance_77 : decode cX6_advance 77 = .ok (.getfield 79, 3) := by decide +kernel
theorem dX6_advance_80 : decode cX6_advance 80 = .ok (.if_icmp .ne 7, 3) := by decide +kernel
theorem dX6_advance_83 : decode cX6_advance 83 = .ok (.iconst 1, 1) := by decide +kernel
theorem dX6_advance_84 : decode cX6_advance 84 = .ok (.goto 4, 3) := by decide +kernel
theorem dX6_advance_87 : decode cX6_advance 87 = .ok (.iconst 0, 1) := by decide +kernel
theorem dX6_advance_88 : decode cX6_advance 88 = .ok (.istore_n 2, 1) := by decide +kernel
theorem dX6_advance_89 : decode cX6_advance 89 = .ok (.aload_n 0, 1) := by decide +kernel
theorem dX6_advance_90 : decode cX6_advance 90 = .ok (.aload_n 0, 1) := by decide +kernel
theorem dX6_advance_91 : decode cX6_advance 91 = .ok (.getfield 55, 3) := by decide +kernel
theorem dX6_advance_94 : decode cX6_advance 94 = .ok (.putfield 79, 3) := by decide +kernel
theorem dX6_advance_97 : decode cX6_advance 97 = .ok (.aload_n 0, 1) := by decide +kernel
theorem dX6_advance_98 : decode cX6_advance 98 = .ok (.getfield 55, 3) := by decide +kernel
theorem dX6_advance_101 : decode cX6_advance 101 = .ok (.aload_n 0, 1) := by decide +kernel
theorem dX6_advance_102 : decode cX6_advance 102 = .ok (.getfield 21, 3) := by decide +kernel
theorem dX6_advance_105 : decode cX6_advance 105 = .ok (.if_icmp .lt 9, 3) := by decide +kernel
theorem dX6_advance_108 : decode cX6_advance 108 = .ok (.aload_n 0, 1) := by decide +kernel
theorem dX6_advance_109 : decode cX6_advance 109 = .ok (.iconst 0, 1) := by decide +kernel
theorem dX6_advance_110 : decode cX6_advance 110 = .ok (.putfield 58, 3) := by decide +kernel
theorem dX6_advance_113 : decode cX6_advance 113 = .ok (.return_, 1) := by decide +kernel
theorem dX6_advance_114 : decode cX6_advance 114 = .ok (.aload_n 0, 1) := by decide +kernel
theorem dX6_advance_115 : decode cX6_advance 115 = .ok (.aload_n 0, 1) := by decide +kernel
theorem dX6_advance_116 : decode cX6_advance 116 = .ok (.getfield 9, 3) := by decide +kernel
theorem dX6_advance_119 : decode cX6_advance 119 = .ok (.aload_n 0, 1) := by decide +kernel
theorem dX6_advance_120 : decode cX6_advance 120 = .ok (.getfield 55, 3) := by decide +kernel
theorem dX6_advance_123 : decode cX6_advance 123 = .ok (.iaload, 1) := by decide +kernel
theorem dX6_advance_124 : decode cX6_advance 124 = .ok (.invokestatic 88, 3) := by decide +kernel
theorem dX6_advance_127 : decode cX6_advance 127 = .ok (.putfield 58, 3) := by decide +kernel
theorem dX6_advance_130 : decode cX6_advance 130 = .ok (.aload_n 0, 1) := by decide +kernel
theorem dX6_advance_131 : decode cX6_advance 131 = .ok (.dup, 1) := by decide +kernel
theorem dX6_advance_132 : decode cX6_advance 132 = .ok (.getfield 79, 3) := by decide +kernel
theorem dX6_advance_135 : decode cX6_advance 135 = .ok (.iconst 1, 1) := by decide +kernel
theorem dX6_advance_136 : decode cX6_advance 136 = .ok (.iadd, 1) := by decide +kernel
theorem dX6_advance_137 : decode cX6_advance 137 = .ok (.putfield 79, 3) := by decide +kernel
theorem dX6_advance_140 : decode cX6_advance 140 = .ok (.aload_n 0, 1) := by decide +kernel
theorem dX6_advance_141 : decode cX6_advance 141 = .ok (.getfield 58, 3) := by decide +kernel
theorem dX6_advance_144 : decode cX6_advance 144 = .ok (.iconst 3, 1) := by decide +kernel
theorem dX6_advance_145 : decode cX6_advance 145 = .ok (.if_icmp .eq 62, 3) := by decide +kernel
theorem dX6_advance_148 : decode cX6_advance 148 = .ok (.aload_n 0, 1) := by decide +kernel
theorem dX6_advance_149 : decode cX6_advance 149 = .ok (.getfield 79, 3) := by decide +kernel
theorem dX6_advance_152 : decode cX6_advance 152 = .ok (.aload_n 0, 1) := by decide +kernel
theorem dX6_advance_153 : decode cX6_advance 153 = .ok (.getfield 21, 3) := by decide +kernel
theorem dX6_advance_156 : decode cX6_advance 156 = .ok (.if_icmp .ge 35, 3) := by decide +kernel
theorem dX6_advance_159 : decode cX6_advance 159 = .ok (.aload_n 0, 1) := by decide +kernel
theorem dX6_advance_160 : decode cX6_advance 160 = .ok (.getfield 9, 3) := by decide +kernel
theorem dX6_advance_163 : decode cX6_advance 163 = .ok (.aload_n 0, 1) := by decide +kernel
theorem dX6_advance_164 : decode cX6_advance 164 = .ok (.getfield 79, 3) := by decide +kernel
theorem dX6_advance_167 : decode cX6_advance 167 = .ok (.iaload, 1) := by decide +kernel
theorem dX6_advance_168 : decode cX6_advance 168 = .ok (.invokestatic 88, 3) := by decide +kernel
theorem dX6_advance_171 : decode cX6_advance 171 = .ok (.aload_n 0, 1) := by decide +kernel
theorem dX6_advance_172 : decode cX6_advance 172 = .ok (.getfield 58, 3) := by decide +kernel
theorem dX6_advance_175 : decode cX6_advance 175 = .ok (.if_icmp .ne 16, 3) := by decide +kernel
theorem dX6_advance_178 : decode cX6_advance 178 = .ok (.aload_n 0, 1) := by decide +kernel
theorem dX6_advance_179 : decode cX6_advance 179 = .ok (.dup, 1) := by decide +kernel
theorem dX6_advance_180 : decode cX6_advance 180 = .ok (.getfield 79, 3) := by decide +kernel
theorem dX6_advance_183 : decode cX6_advance 183 = .ok (.iconst 1, 1) := by decide +kernel
theorem dX6_advance_184 : decode cX6_advance 184 = .ok (.iadd, 1) := by decide +kernel
theorem dX6_advance_185 : decode cX6_advance 185 = .ok (.putfield 79, 3) := by decide +kernel
theorem dX6_advance_188 : decode cX6_advance 188 = .ok (.goto (-40), 3) := by decide +kernel
theorem dX6_advance_191 : decode cX6_advance 191 = .ok (.aload_n 0, 1) := by decide +kernel
theorem dX6_advance_192 : decode cX6_advance 192 = .ok (.iload_n 2, 1) := by decide +kernel
theorem dX6_advance_193 : decode cX6_advance 193 = .ok (.ifCond .eq 7, 3) := by decide +kernel
theorem dX6_advance_196 : decode cX6_advance 196 = .ok (.iconst 4, 1) := by decide +kernel
theorem dX6_advance_197 : decode cX6_advance 197 = .ok (.goto 7, 3) := by decide +kernel
theorem dX6_advance_200 : decode cX6_advance 200 = .ok (.aload_n 0, 1) := by decide +kernel
theorem dX6_advance_201 : decode cX6_advance 201 = .ok (.getfield 58, 3) := by decide +kernel
theorem dX6_advance_204 : decode cX6_advance 204 = .ok (.putfield 58, 3) := by decide +kernel
theorem dX6_advance_207 : decode cX6_advance 207 = .ok (.return_, 1) := by decide +kernel
theorem dX6_sortOf_0 : decode cX6_sortOf 0 = .ok (.iload_n 0, 1) := by decide +kernel
theorem dX6_sortOf_1 : decode cX6_sortOf 1 = .ok (.bipush 97, 2) := by decide +kernel
theorem dX6_sortOf_3 : decode cX6_sortOf 3 = .ok (.if_icmp .lt 11, 3) := by decide +kernel
theorem dX6_sortOf_6 : decode cX6_sortOf 6 = .ok (.iload_n 0, 1) := by decide +kernel
theorem dX6_sortOf_7 : decode cX6_sortOf 7 = .ok (.bipush 122, 2) := by decide +kernel
theorem dX6_sortOf_9 : decode cX6_sortOf 9 = .ok (.if_icmp .gt 5, 3) := by decide +kernel
theorem dX6_sortOf_12 : decode cX6_sortOf 12 = .ok (.iconst 2, 1) := by decide +kernel
theorem dX6_sortOf_13 : decode cX6_sortOf 13 = .ok (.ireturn, 1) := by decide +kernel
theorem dX6_sortOf_14 : decode cX6_sortOf 14 = .ok (.iload_n 0, 1) := by decide +kernel
theorem dX6_sortOf_15 : decode cX6_sortOf 15 = .ok (.bipush 48, 2) := by decide +kernel
theorem dX6_sortOf_17 : decode cX6_sortOf 17 = .ok (.if_icmp .lt 13, 3) := by decide +kernel
theorem dX6_sortOf_20 : decode cX6_sortOf 20 = .ok (.iload_n 0, 1) := by decide +kernel
theorem dX6_sortOf_21 : decode cX6_sortOf 21 = .ok (.bipush 57, 2) := by decide +kernel
theorem dX6_sortOf_23 : decode cX6_sortOf 23 = .ok (.if_icmp .gt 7, 3) := by decide +kernel
theorem dX6_sortOf_26 : decode cX6_sortOf 26 = .ok (.iconst 1, 1) := by decide +kernel
theorem dX6_sortOf_27 : decode cX6_sortOf 27 = .ok (.goto 4, 3) := by decide +kernel
theorem dX6_sortOf_30 : decode cX6_sortOf 30 = .ok (.iconst 3, 1) := by decide +kernel
theorem dX6_sortOf_31 : decode cX6_sortOf 31 = .ok (.ireturn, 1) := by decide +kernel
theorem dX6_keyHere_0 : decode cX6_keyHere 0 = .ok (.aload_n 0, 1) := by decide +kernel
theorem dX6_keyHere_1 : decode cX6_keyHere 1 = .ok (.ldc 92, 2) := by decide +kernel
theorem dX6_keyHere_3 : decode cX6_keyHere 3 = .ok (.invokevirtual 94, 3) := by decide +kernel
theorem dX6_keyHere_6 : decode cX6_keyHere 6 = .ok (.ifCond .eq 5, 3) := by decide +kernel
theorem dX6_keyHere_9 : decode cX6_keyHere 9 = .ok (.iconst 0, 1) := by decide +kernel
theorem dX6_keyHere_10 : decode cX6_keyHere 10 = .ok (.ireturn, 1) := by decide +kernel
theorem dX6_keyHere_11 : decode cX6_keyHere 11 = .ok (.aload_n 0, 1) := by decide +kernel
theorem dX6_keyHere_12 : decode cX6_keyHere 12 = .ok (.ldc 98, 2) := by decide +kernel
theorem dX6_keyHere_14 : decode cX6_keyHere 14 = .ok (.invokevirtual 94, 3) := by decide +kernel
theorem dX6_keyHere_17 : decode cX6_keyHere 17 = .ok (.ifCond .eq 5, 3) := by decide +kernel
theorem dX6_keyHere_20 : decode cX6_keyHere 20 = .ok (.iconst 1, 1) := by decide +kernel
theorem dX6_keyHere_21 : decode cX6_keyHere 21 = .ok (.ireturn, 1) := by decide +kernel
theorem dX6_keyHere_22 : decode cX6_keyHere 22 = .ok (.aload_n 0, 1) := by decide +kernel
theorem dX6_keyHere_23 : decode cX6_keyHere 23 = .ok (.ldc 100, 2) := by decide +kernel
theorem dX6_keyHere_25 : decode cX6_keyHere 25 = .ok (.invokevirtual 94, 3) := by decide +kernel
theorem dX6_keyHere_28 : decode cX6_keyHere 28 = .ok (.ifCond .eq 7, 3) := by decide +kernel
theorem dX6_keyHere_31 : decode cX6_keyHere 31 = .ok (.iconst 2, 1) := by decide +kernel
theorem dX6_keyHere_32 : decode cX6_keyHere 32 = .ok (.goto 4, 3) := by decide +kernel
theorem dX6_keyHere_35 : decode cX6_keyHere 35 = .ok (.iconst (-1), 1) := by decide +kernel
theorem dX6_keyHere_36 : decode cX6_keyHere 36 = .ok (.ireturn, 1) := by decide +kernel
theorem dX6_isHere_0 : decode cX6_isHere 0 = .ok (.aload_n 0, 1) := by decide +kernel
theorem dX6_isHere_1 : decode cX6_isHere 1 = .ok (.getfield 79, 3) := by decide +kernel
theorem dX6_isHere_4 : decode cX6_isHere 4 = .ok (.aload_n 0, 1) := by decide +kernel
theorem dX6_isHere_5 : decode cX6_isHere 5 = .ok (.getfield 55, 3) := by decide +kernel
theorem dX6_isHere_8 : decode cX6_isHere 8 = .ok (.isub, 1) := by decide +kernel
theorem dX6_isHere_9 : decode cX6_isHere 9 = .ok (.aload_n 1, 1) := by decide +kernel
theorem dX6_isHere_10 : decode cX6_isHere 10 = .ok (.invokevirtual 102, 3) := by decide +kernel
theorem dX6_isHere_13 : decode cX6_isHere 13 = .ok (.if_icmp .eq 5, 3) := by decide +kernel
theorem dX6_isHere_16 : decode cX6_isHere 16 = .ok (.iconst 0, 1) := by decide +kernel
theorem dX6_isHere_17 : decode cX6_isHere 17 = .ok (.ireturn, 1) := by decide +kernel
theorem dX6_isHere_18 : decode cX6_isHere 18 = .ok (.iconst 0, 1) := by decide +kernel
theorem dX6_isHere_19 : decode cX6_isHere 19 = .ok (.istore_n 2, 1) := by decide +kernel
theorem dX6_isHere_20 : decode cX6_isHere 20 = .ok (.iload_n 2, 1) := by decide +kernel
theorem dX6_isHere_21 : decode cX6_isHere 21 = .ok (.aload_n 1, 1) := by decide +kernel
theorem dX6_isHere_22 : decode cX6_isHere 22 = .ok (.invokevirtual 102, 3) := by decide +kernel
theorem dX6_isHere_25 : decode cX6_isHere 25 = .ok (.if_icmp .ge 30, 3) := by decide +kernel
theorem dX6_isHere_28 : decode cX6_isHere 28 = .ok (.aload_n 0, 1) := by decide +kernel
theorem dX6_isHere_29 : decode cX6_isHere 29 = .ok (.getfield 9, 3) := by decide +kernel
theorem dX6_isHere_32 : decode cX6_isHere 32 = .ok (.aload_n 0, 1) := by decide +kernel
theorem dX6_isHere_33 : decode cX6_isHere 33 = .ok (.getfield 55, 3) := by decide +kernel
theorem dX6_isHere_36 : decode cX6_isHere 36 = .ok (.iload_n 2, 1) := by decide +kernel
theorem dX6_isHere_37 : decode cX6_isHere 37 = .ok (.iadd, 1) := by decide +kernel
theorem dX6_isHere_38 : decode cX6_isHere 38 = .ok (.iaload, 1) := by decide +kernel
theorem dX6_isHere_39 : decode cX6_isHere 39 = .ok (.aload_n 1, 1) := by decide +kernel
theorem dX6_isHere_40 : decode cX6_isHere 40 = .ok (.iload_n 2, 1) := by decide +kernel
theorem dX6_isHere_41 : decode cX6_isHere 41 = .ok (.invokevirtual 106, 3) := by decide +kernel
theorem dX6_isHere_44 : decode cX6_isHere 44 = .ok (.if_icmp .eq 5, 3) := by decide +kernel
theorem dX6_isHere_47 : decode cX6_isHere 47 = .ok (.iconst 0, 1) := by decide +kernel
theorem dX6_isHere_48 : decode cX6_isHere 48 = .ok (.ireturn, 1) := by decide +kernel
theorem dX6_isHere_49 : decode cX6_isHere 49 = .ok (.iinc 2 1, 3) := by decide +kernel
theorem dX6_isHere_52 : decode cX6_isHere 52 = .ok (.goto (-32), 3) := by decide +kernel
theorem dX6_isHere_55 : decode cX6_isHere 55 = .ok (.iconst 1, 1) := by decide +kernel
theorem dX6_isHere_56 : decode cX6_isHere 56 = .ok (.ireturn, 1) := by decide +kernel
theorem dX6_takesPiece_0 : decode cX6_takesPiece 0 = .ok (.aload_n 0, 1) := by decide +kernel
theorem dX6_takesPiece_1 : decode cX6_takesPiece 1 = .ok (.getfield 58, 3) := by decide +kernel
theorem dX6_takesPiece_4 : decode cX6_takesPiece 4 = .ok (.tableswitch 52 1 3 #[28, 33, 38], 28) := by decide +kernel
theorem dX6_takesPiece_32 : decode cX6_takesPiece 32 = .ok (.aload_n 0, 1) := by decide +kernel
theorem dX6_takesPiece_33 : decode cX6_takesPiece 33 = .ok (.invokevirtual 110, 3) := by decide +kernel
theorem dX6_takesPiece_36 : decode cX6_takesPiece 36 = .ok (.ireturn, 1) := by decide +kernel
theorem dX6_takesPiece_37 : decode cX6_takesPiece 37 = .ok (.aload_n 0, 1) := by decide +kernel
theorem dX6_takesPiece_38 : decode cX6_takesPiece 38 = .ok (.invokevirtual 113, 3) := by decide +kernel
theorem dX6_takesPiece_41 : decode cX6_takesPiece 41 = .ok (.ireturn, 1) := by decide +kernel
theorem dX6_takesPiece_42 : decode cX6_takesPiece 42 = .ok (.aload_n 0, 1) := by decide +kernel
theorem dX6_takesPiece_43 : decode cX6_takesPiece 43 = .ok (.aload_n 0, 1) := by decide +kernel
theorem dX6_takesPiece_44 : decode cX6_takesPiece 44 = .ok (.getfield 9, 3) := by decide +kernel
theorem dX6_takesPiece_47 : decode cX6_takesPiece 47 = .ok (.aload_n 0, 1) := by decide +kernel
theorem dX6_takesPiece_48 : decode cX6_takesPiece 48 = .ok (.getfield 55, 3) := by decide +kernel
theorem dX6_takesPiece_51 : decode cX6_takesPiece 51 = .ok (.iaload, 1) := by decide +kernel
theorem dX6_takesPiece_52 : decode cX6_takesPiece 52 = .ok (.invokevirtual 116, 3) := by decide +kernel
theorem dX6_takesPiece_55 : decode cX6_takesPiece 55 = .ok (.ireturn, 1) := by decide +kernel
theorem dX6_takesPiece_56 : decode cX6_takesPiece 56 = .ok (.iconst 0, 1) := by decide +kernel
theorem dX6_takesPiece_57 : decode cX6_takesPiece 57 = .ok (.ireturn, 1) := by decide +kernel
theorem dX6_takesNumber_0 : decode cX6_takesNumber 0 = .ok (.aload_n 0, 1) := by decide +kernel
theorem dX6_takesNumber_1 : decode cX6_takesNumber 1 = .ok (.getfield 79, 3) := by decide +kernel
theorem dX6_takesNumber_4 : decode cX6_takesNumber 4 = .ok (.aload_n 0, 1) := by decide +kernel
theorem dX6_takesNumber_5 : decode cX6_takesNumber 5 = .ok (.getfield 55, 3) := by decide +kernel
theorem dX6_takesNumber_8 : decode cX6_takesNumber 8 = .ok (.isub, 1) := by decide +kernel
theorem dX6_takesNumber_9 : decode cX6_takesNumber 9 = .ok (.iconst 4, 1) := by decide +kernel
theorem dX6_takesNumber_10 : decode cX6_takesNumber 10 = .ok (.if_icmp .le 5, 3) := by decide +kernel
theorem dX6_takesNumber_13 : decode cX6_takesNumber 13 = .ok (.iconst 0, 1) := by decide +kernel
theorem dX6_takesNumber_14 : decode cX6_takesNumber 14 = .ok (.ireturn, 1) := by decide +kernel
theorem dX6_takesNumber_15 : decode cX6_takesNumber 15 = .ok (.iconst 0, 1) := by decide +kernel
theorem dX6_takesNumber_16 : decode cX6_takesNumber 16 = .ok (.istore_n 1, 1) := by decide +kernel
theorem dX6_takesNumber_17 : decode cX6_takesNumber 17 = .ok (.aload_n 0, 1) := by decide +kernel
theorem dX6_takesNumber_18 : decode cX6_takesNumber 18 = .ok (.getfield 55, 3) := by decide +kernel
theorem dX6_takesNumber_21 : decode cX6_takesNumber 21 = .ok (.istore_n 2, 1) := by decide +kernel
theorem dX6_takesNumber_22 : decode cX6_takesNumber 22 = .ok (.iload_n 2, 1) := by decide +kernel
theorem dX6_takesNumber_23 : decode cX6_takesNumber 23 = .ok (.aload_n 0, 1) := by decide +kernel
theorem dX6_takesNumber_24 : decode cX6_takesNumber 24 = .ok (.getfield 79, 3) := by decide +kernel
theorem dX6_takesNumber_27 : decode cX6_takesNumber 27 = .ok (.if_icmp .ge 24, 3) := by decide +kernel
theorem dX6_takesNumber_30 : decode cX6_takesNumber 30 = .ok (.iload_n 1, 1) := by decide +kernel
theorem dX6_takesNumber_31 : decode cX6_takesNumber 31 = .ok (.bipush 10, 2) := by decide +kernel
theorem dX6_takesNumber_33 : decode cX6_takesNumber 33 = .ok (.imul, 1) := by decide +kernel
theorem dX6_takesNumber_34 : decode cX6_takesNumber 34 = .ok (.aload_n 0, 1) := by decide +kernel
theorem dX6_takesNumber_35 : decode cX6_takesNumber 35 = .ok (.getfield 9, 3) := by decide +kernel
theorem dX6_takesNumber_38 : decode cX6_takesNumber 38 = .ok (.iload_n 2, 1) := by decide +kernel
theorem dX6_takesNumber_39 : decode cX6_takesNumber 39 = .ok (.iaload, 1) := by decide +kernel
theorem dX6_takesNumber_40 : decode cX6_takesNumber 40 = .ok (.iadd, 1) := by decide +kernel
theorem dX6_takesNumber_41 : decode cX6_takesNumber 41 = .ok (.bipush 48, 2) := by decide +kernel
theorem dX6_takesNumber_43 : decode cX6_takesNumber 43 = .ok (.isub, 1) := by decide +kernel
theorem dX6_takesNumber_44 : decode cX6_takesNumber 44 = .ok (.istore_n 1, 1) := by decide +kernel
theorem dX6_takesNumber_45 : decode cX6_takesNumber 45 = .ok (.iinc 2 1, 3) := by decide +kernel
theorem dX6_takesNumber_48 : decode cX6_takesNumber 48 = .ok (.goto (-26), 3) := by decide +kernel
theorem dX6_takesNumber_51 : decode cX6_takesNumber 51 = .ok (.aload_n 0, 1) := by decide +kernel
theorem dX6_takesNumber_52 : decode cX6_takesNumber 52 = .ok (.iload_n 1, 1) := by decide +kernel
theorem dX6_takesNumber_53 : decode cX6_takesNumber 53 = .ok (.invokevirtual 120, 3) := by decide +kernel
theorem dX6_takesNumber_56 : decode cX6_takesNumber 56 = .ok (.iconst 1, 1) := by decide +kernel
theorem dX6_takesNumber_57 : decode cX6_takesNumber 57 = .ok (.ireturn, 1) := by decide +kernel
theorem dX6_takesName_0 : decode cX6_takesName 0 = .ok (.aload_n 0, 1) := by decide +kernel
theorem dX6_takesName_1 : decode cX6_takesName 1 = .ok (.getfield 36, 3) := by decide +kernel
theorem dX6_takesName_4 : decode cX6_takesName 4 = .ok (.ifCond .ne 8, 3) := by decide +kernel
theorem dX6_takesName_7 : decode cX6_takesName 7 = .ok (.ldc 123, 2) := by decide +kernel
theorem dX6_takesName_9 : decode cX6_takesName 9 = .ok (.goto 18, 3) := by decide +kernel
theorem dX6_takesName_12 : decode cX6_takesName 12 = .ok (.aload_n 0, 1) := by decide +kernel
theorem dX6_takesName_13 : decode cX6_takesName 13 = .ok (.getfield 36, 3) := by decide +kernel
theorem dX6_takesName_16 : decode cX6_takesName 16 = .ok (.iconst 1, 1) := by decide +kernel
theorem dX6_takesName_17 : decode cX6_takesName 17 = .ok (.if_icmp .ne 8, 3) := by decide +kernel
theorem dX6_takesName_20 : decode cX6_takesName 20 = .ok (.ldc 125, 2) := by decide +kernel
theorem dX6_takesName_22 : decode cX6_takesName 22 = .ok (.goto 5, 3) := by decide +kernel
theorem dX6_takesName_25 : decode cX6_takesName 25 = .ok (.ldc 127, 2) := by decide +kernel
theorem dX6_takesName_27 : decode cX6_takesName 27 = .ok (.astore_n 1, 1) := by decide +kernel
theorem dX6_takesName_28 : decode cX6_takesName 28 = .ok (.aload_n 0, 1) := by decide +kernel
theorem dX6_takesName_29 : decode cX6_takesName 29 = .ok (.getfield 79, 3) := by decide +kernel
theorem dX6_takesName_32 : decode cX6_takesName 32 = .ok (.aload_n 0, 1) := by decide +kernel
theorem dX6_takesName_33 : decode cX6_takesName 33 = .ok (.getfield 55, 3) := by decide +kernel
theorem dX6_takesName_36 : decode cX6_takesName 36 = .ok (.isub, 1) := by decide +kernel
theorem dX6_takesName_37 : decode cX6_takesName 37 = .ok (.iconst 1, 1) := by decide +kernel
theorem dX6_takesName_38 : decode cX6_takesName 38 = .ok (.if_icmp .ne 20, 3) := by decide +kernel
theorem dX6_takesName_41 : decode cX6_takesName 41 = .ok (.aload_n 1, 1) := by decide +kernel
theorem dX6_takesName_42 : decode cX6_takesName 42 = .ok (.aload_n 0, 1) := by decide +kernel
theorem dX6_takesName_43 : decode cX6_takesName 43 = .ok (.getfield 9, 3) := by decide +kernel
theorem dX6_takesName_46 : decode cX6_takesName 46 = .ok (.aload_n 0, 1) := by decide +kernel
theorem dX6_takesName_47 : decode cX6_takesName 47 = .ok (.getfield 55, 3) := by decide +kernel
theorem dX6_takesName_50 : decode cX6_takesName 50 = .ok (.iaload, 1) := by decide +kernel
theorem dX6_takesName_51 : decode cX6_takesName 51 = .ok (.i2c, 1) := by decide +kernel
theorem dX6_takesName_52 : decode cX6_takesName 52 = .ok (.invokevirtual 129, 3) := by decide +kernel
theorem dX6_takesName_55 : decode cX6_takesName 55 = .ok (.goto 4, 3) := by decide +kernel
theorem dX6_takesName_58 : decode cX6_takesName 58 = .ok (.iconst (-1), 1) := by decide +kernel
theorem dX6_takesName_59 : decode cX6_takesName 59 = .ok (.istore_n 2, 1) := by decide +kernel
theorem dX6_takesName_60 : decode cX6_takesName 60 = .ok (.iload_n 2, 1) := by decide +kernel
theorem dX6_takesName_61 : decode cX6_takesName 61 = .ok (.ifCond .ge 5, 3) := by decide +kernel
theorem dX6_takesName_64 : decode cX6_takesName 64 = .ok (.iconst 0, 1) := by decide +kernel
theorem dX6_takesName_65 : decode cX6_takesName 65 = .ok (.ireturn, 1) := by decide +kernel
theorem dX6_takesName_66 : decode cX6_takesName 66 = .ok (.aload_n 0, 1) := by decide +kernel
theorem dX6_takesName_67 : decode cX6_takesName 67 = .ok (.iconst (-1), 1) := by decide +kernel
theorem dX6_takesName_68 : decode cX6_takesName 68 = .ok (.iload_n 2, 1) := by decide +kernel
theorem dX6_takesName_69 : decode cX6_takesName 69 = .ok (.isub, 1) := by decide +kernel
theorem dX6_takesName_70 : decode cX6_takesName 70 = .ok (.invokevirtual 120, 3) := by decide +kernel
theorem dX6_takesName_73 : decode cX6_takesName 73 = .ok (.iconst 1, 1) := by decide +kernel
theorem dX6_takesName_74 : decode cX6_takesName 74 = .ok (.ireturn, 1) := by decide +kernel
theorem dX6_takesOpening_0 : decode cX6_takesOpening 0 = .ok (.iload_n 1, 1) := by decide +kernel
theorem dX6_takesOpening_1 : decode cX6_takesOpening 1 = .ok (.bipush 40, 2) := by decide +kernel
theorem dX6_takesOpening_3 : decode cX6_takesOpening 3 = .ok (.if_icmp .ne 25, 3) := by decide +kernel
theorem dX6_takesOpening_6 : decode cX6_takesOpening 6 = .ok (.aload_n 0, 1) := by decide +kernel
theorem dX6_takesOpening_7 : decode cX6_takesOpening 7 = .ok (.getfield 72, 3) := by decide +kernel
theorem dX6_takesOpening_10 : decode cX6_takesOpening 10 = .ok (.bipush 8, 2) := by decide +kernel
theorem dX6_takesOpening_12 : decode cX6_takesOpening 12 = .ok (.if_icmp .ge 16, 3) := by decide +kernel
theorem dX6_takesOpening_15 : decode cX6_takesOpening 15 = .ok (.aload_n 0, 1) := by decide +kernel
theorem dX6_takesOpening_16 : decode cX6_takesOpening 16 = .ok (.dup, 1) := by decide +kernel
theorem dX6_takesOpening_17 : decode cX6_takesOpening 17 = .ok (.getfield 72, 3) := by decide +kernel
theorem dX6_takesOpening_20 : decode cX6_takesOpening 20 = .ok (.iconst 1, 1) := by decide +kernel
theorem dX6_takesOpening_21 : decode cX6_takesOpening 21 = .ok (.iadd, 1) := by decide +kernel
theorem dX6_takesOpening_22 : decode cX6_takesOpening 22 = .ok (.putfield 72, 3) := by decide +kernel
theorem dX6_takesOpening_25 : decode cX6_takesOpening 25 = .ok (.goto 33, 3) := by decide +kernel
theorem dX6_takesOpening_28 : decode cX6_takesOpening 28 = .ok (.iload_n 1, 1) := by decide +kernel
theorem dX6_takesOpening_29 : decode cX6_takesOpening 29 = .ok (.bipush 33, 2) := by decide +kernel
theorem dX6_takesOpening_31 : decode cX6_takesOpening 31 = .ok (.if_icmp .ne 25, 3) := by decide +kernel
theorem dX6_takesOpening_34 : decode cX6_takesOpening 34 = .ok (.aload_n 0, 1) := by decide +kernel
theorem dX6_takesOpening_35 : decode cX6_takesOpening 35 = .ok (.getfield 85, 3) := by decide +kernel
theorem dX6_takesOpening_38 : decode cX6_takesOpening 38 = .ok (.bipush 8, 2) := by decide +kernel
theorem dX6_takesOpening_40 : decode cX6_takesOpening 40 = .ok (.if_icmp .ge 16, 3) := by decide +kernel
theorem dX6_takesOpening_43 : decode cX6_takesOpening 43 = .ok (.aload_n 0, 1) := by decide +kernel
theorem dX6_takesOpening_44 : decode cX6_takesOpening 44 = .ok (.dup, 1) := by decide +kernel
theorem dX6_takesOpening_45 : decode cX6_takesOpening 45 = .ok (.getfield 85, 3) := by decide +kernel
theorem dX6_takesOpening_48 : decode cX6_takesOpening 48 = .ok (.iconst 1, 1) := by decide +kernel
theorem dX6_takesOpening_49 : decode cX6_takesOpening 49 = .ok (.iadd, 1) := by decide +kernel
theorem dX6_takesOpening_50 : decode cX6_takesOpening 50 = .ok (.putfield 85, 3) := by decide +kernel
theorem dX6_takesOpening_53 : decode cX6_takesOpening 53 = .ok (.goto 5, 3) := by decide +kernel
theorem dX6_takesOpening_56 : decode cX6_takesOpening 56 = .ok (.iconst 0, 1) := by decide +kernel
theorem dX6_takesOpening_57 : decode cX6_takesOpening 57 = .ok (.ireturn, 1) := by decide +kernel
theorem dX6_takesOpening_58 : decode cX6_takesOpening 58 = .ok (.aload_n 0, 1) := by decide +kernel
theorem dX6_takesOpening_59 : decode cX6_takesOpening 59 = .ok (.iload_n 1, 1) := by decide +kernel
theorem dX6_takesOpening_60 : decode cX6_takesOpening 60 = .ok (.invokevirtual 132, 3) := by decide +kernel
theorem dX6_takesOpening_63 : decode cX6_takesOpening 63 = .ok (.iconst 1, 1) := by decide +kernel
theorem dX6_takesOpening_64 : decode cX6_takesOpening 64 = .ok (.ireturn, 1) := by decide +kernel
theorem dX6_takesSign_0 : decode cX6_takesSign 0 = .ok (.aload_n 0, 1) := by decide +kernel
theorem dX6_takesSign_1 : decode cX6_takesSign 1 = .ok (.getfield 58, 3) := by decide +kernel
theorem dX6_takesSign_4 : decode cX6_takesSign 4 = .ok (.iconst 3, 1) := by decide +kernel
theorem dX6_takesSign_5 : decode cX6_takesSign 5 = .ok (.if_icmp .eq 5, 3) := by decide +kernel
theorem dX6_takesSign_8 : decode cX6_takesSign 8 = .ok (.iconst 0, 1) := by decide +kernel
theorem dX6_takesSign_9 : decode cX6_takesSign 9 = .ok (.ireturn, 1) := by decide +kernel
theorem dX6_takesSign_10 : decode cX6_takesSign 10 = .ok (.aload_n 0, 1) := by decide +kernel
theorem dX6_takesSign_11 : decode cX6_takesSign 11 = .ok (.getfield 9, 3) := by decide +kernel
theorem dX6_takesSign_14 : decode cX6_takesSign 14 = .ok (.aload_n 0, 1) := by decide +kernel
theorem dX6_takesSign_15 : decode cX6_takesSign 15 = .ok (.getfield 55, 3) := by decide +kernel
theorem dX6_takesSign_18 : decode cX6_takesSign 18 = .ok (.iaload, 1) := by decide +kernel
theorem dX6_takesSign_19 : decode cX6_takesSign 19 = .ok (.istore_n 1, 1) := by decide +kernel
theorem dX6_takesSign_20 : decode cX6_takesSign 20 = .ok (.iload_n 1, 1) := by decide +kernel
theorem dX6_takesSign_21 : decode cX6_takesSign 21 = .ok (.bipush 41, 2) := by decide +kernel
theorem dX6_takesSign_23 : decode cX6_takesSign 23 = .ok (.if_icmp .ne 8, 3) := by decide +kernel
theorem dX6_takesSign_26 : decode cX6_takesSign 26 = .ok (.aload_n 0, 1) := by decide +kernel
theorem dX6_takesSign_27 : decode cX6_takesSign 27 = .ok (.invokevirtual 135, 3) := by decide +kernel
theorem dX6_takesSign_30 : decode cX6_takesSign 30 = .ok (.ireturn, 1) := by decide +kernel
theorem dX6_takesSign_31 : decode cX6_takesSign 31 = .ok (.iload_n 1, 1) := by decide +kernel
theorem dX6_takesSign_32 : decode cX6_takesSign 32 = .ok (.invokestatic 138, 3) := by decide +kernel
theorem dX6_takesSign_35 : decode cX6_takesSign 35 = .ok (.istore_n 2, 1) := by decide +kernel
theorem dX6_takesSign_36 : decode cX6_takesSign 36 = .ok (.iload_n 2, 1) := by decide +kernel
theorem dX6_takesSign_37 : decode cX6_takesSign 37 = .ok (.ifCond .ne 5, 3) := by decide +kernel
theorem dX6_takesSign_40 : decode cX6_takesSign 40 = .ok (.iconst 0, 1) := by decide +kernel
theorem dX6_takesSign_41 : decode cX6_takesSign 41 = .ok (.ireturn, 1) := by decide +kernel
theorem dX6_takesSign_42 : decode cX6_takesSign 42 = .ok (.iload_n 2, 1) := by decide +kernel
theorem dX6_takesSign_43 : decode cX6_takesSign 43 = .ok (.iconst 3, 1) := by decide +kernel
theorem dX6_takesSign_44 : decode cX6_takesSign 44 = .ok (.if_icmp .ne 35, 3) := by decide +kernel
theorem dX6_takesSign_47 : decode cX6_takesSign 47 = .ok (.aload_n 0, 1) := by decide +kernel
theorem dX6_takesSign_48 : decode cX6_takesSign 48 = .ok (.iconst 4, 1) := by decide +kernel
theorem dX6_takesSign_49 : decode cX6_takesSign 49 = .ok (.invokevirtual 75, 3) := by decide +kernel
theorem dX6_takesSign_52 : decode cX6_takesSign 52 = .ok (.aload_n 0, 1) := by decide +kernel
theorem dX6_takesSign_53 : decode cX6_takesSign 53 = .ok (.getfield 82, 3) := by decide +kernel
theorem dX6_takesSign_56 : decode cX6_takesSign 56 = .ok (.ifCond .le 23, 3) := by decide +kernel
theorem dX6_takesSign_59 : decode cX6_takesSign 59 = .ok (.aload_n 0, 1) := by decide +kernel
theorem dX6_takesSign_60 : decode cX6_takesSign 60 = .ok (.getfield 18, 3) := by decide +kernel
theorem dX6_takesSign_63 : decode cX6_takesSign 63 = .ok (.aload_n 0, 1) := by decide +kernel
theorem dX6_takesSign_64 : decode cX6_takesSign 64 = .ok (.getfield 82, 3) := by decide +kernel
theorem dX6_takesSign_67 : decode cX6_takesSign 67 = .ok (.iconst 1, 1) := by decide +kernel
theorem dX6_takesSign_68 : decode cX6_takesSign 68 = .ok (.isub, 1) := by decide +kernel
theorem dX6_takesSign_69 : decode cX6_takesSign 69 = .ok (.iaload, 1) := by decide +kernel
theorem dX6_takesSign_70 : decode cX6_takesSign 70 = .ok (.invokestatic 138, 3) := by decide +kernel
theorem dX6_takesSign_73 : decode cX6_takesSign 73 = .ok (.iconst 3, 1) := by decide +kernel
theorem dX6_takesSign_74 : decode cX6_takesSign 74 = .ok (.if_icmp .ne 5, 3) := by decide +kernel
theorem dX6_takesSign_77 : decode cX6_takesSign 77 = .ok (.iconst 0, 1) := by decide +kernel
theorem dX6_takesSign_78 : decode cX6_takesSign 78 = .ok (.ireturn, 1) := by decide +kernel
theorem dX6_takesSign_79 : decode cX6_takesSign 79 = .ok (.aload_n 0, 1) := by decide +kernel
theorem dX6_takesSign_80 : decode cX6_takesSign 80 = .ok (.iload_n 2, 1) := by decide +kernel
theorem dX6_takesSign_81 : decode cX6_takesSign 81 = .ok (.invokevirtual 75, 3) := by decide +kernel
theorem dX6_takesSign_84 : decode cX6_takesSign 84 = .ok (.aload_n 0, 1) := by decide +kernel
theorem dX6_takesSign_85 : decode cX6_takesSign 85 = .ok (.iload_n 1, 1) := by decide +kernel
theorem dX6_takesSign_86 : decode cX6_takesSign 86 = .ok (.invokevirtual 132, 3) := by decide +kernel
theorem dX6_takesSign_89 : decode cX6_takesSign 89 = .ok (.aload_n 0, 1) := by decide +kernel
theorem dX6_takesSign_90 : decode cX6_takesSign 90 = .ok (.iconst 1, 1) := by decide +kernel
theorem dX6_takesSign_91 : decode cX6_takesSign 91 = .ok (.putfield 61, 3) := by decide +kernel
theorem dX6_takesSign_94 : decode cX6_takesSign 94 = .ok (.iconst 1, 1) := by decide +kernel
theorem dX6_takesSign_95 : decode cX6_takesSign 95 = .ok (.ireturn, 1) := by decide +kernel
theorem dX6_takesClosing_0 : decode cX6_takesClosing 0 = .ok (.aload_n 0, 1) := by decide +kernel
theorem dX6_takesClosing_1 : decode cX6_takesClosing 1 = .ok (.getfield 72, 3) := by decide +kernel
theorem dX6_takesClosing_4 : decode cX6_takesClosing 4 = .ok (.ifCond .ne 5, 3) := by decide +kernel
theorem dX6_takesClosing_7 : decode cX6_takesClosing 7 = .ok (.iconst 0, 1) := by decide +kernel
theorem dX6_takesClosing_8 : decode cX6_takesClosing 8 = .ok (.ireturn, 1) := by decide +kernel
theorem dX6_takesClosing_9 : decode cX6_takesClosing 9 = .ok (.aload_n 0, 1) := by decide +kernel
theorem dX6_takesClosing_10 : decode cX6_takesClosing 10 = .ok (.iconst 1, 1) := by decide +kernel
theorem dX6_takesClosing_11 : decode cX6_takesClosing 11 = .ok (.invokevirtual 75, 3) := by decide +kernel
theorem dX6_takesClosing_14 : decode cX6_takesClosing 14 = .ok (.aload_n 0, 1) := by decide +kernel
theorem dX6_takesClosing_15 : decode cX6_takesClosing 15 = .ok (.dup, 1) := by decide +kernel
theorem dX6_takesClosing_16 : decode cX6_takesClosing 16 = .ok (.getfield 72, 3) := by decide +kernel
theorem dX6_takesClosing_19 : decode cX6_takesClosing 19 = .ok (.iconst 1, 1) := by decide +kernel
theorem dX6_takesClosing_20 : decode cX6_takesClosing 20 = .ok (.isub, 1) := by decide +kernel
theorem dX6_takesClosing_21 : decode cX6_takesClosing 21 = .ok (.putfield 72, 3) := by decide +kernel
theorem dX6_takesClosing_24 : decode cX6_takesClosing 24 = .ok (.aload_n 0, 1) := by decide +kernel
theorem dX6_takesClosing_25 : decode cX6_takesClosing 25 = .ok (.dup, 1) := by decide +kernel
theorem dX6_takesClosing_26 : decode cX6_takesClosing 26 = .ok (.getfield 82, 3) := by decide +kernel
theorem dX6_takesClosing_29 : decode cX6_takesClosing 29 = .ok (.iconst 1, 1) := by decide +kernel
theorem dX6_takesClosing_30 : decode cX6_takesClosing 30 = .ok (.isub, 1) := by decide +kernel
theorem dX6_takesClosing_31 : decode cX6_takesClosing 31 = .ok (.putfield 82, 3) := by decide +kernel
theorem dX6_takesClosing_34 : decode cX6_takesClosing 34 = .ok (.aload_n 0, 1) := by decide +kernel
theorem dX6_takesClosing_35 : decode cX6_takesClosing 35 = .ok (.invokevirtual 141, 3) := by decide +kernel
theorem dX6_takesClosing_38 : decode cX6_takesClosing 38 = .ok (.iconst 1, 1) := by decide +kernel
theorem dX6_takesClosing_39 : decode cX6_takesClosing 39 = .ok (.ireturn, 1) := by decide +kernel
theorem dX6_writeThing_0 : decode cX6_writeThing 0 = .ok (.aload_n 0, 1) := by decide +kernel
theorem dX6_writeThing_1 : decode cX6_writeThing 1 = .ok (.dup, 1) := by decide +kernel
theorem dX6_writeThing_2 : decode cX6_writeThing 2 = .ok (.getfield 39, 3) := by decide +kernel
theorem dX6_writeThing_5 : decode cX6_writeThing 5 = .ok (.iconst 1, 1) := by decide +kernel
theorem dX6_writeThing_6 : decode cX6_writeThing 6 = .ok (.iadd, 1) := by decide +kernel
theorem dX6_writeThing_7 : decode cX6_writeThing 7 = .ok (.putfield 39, 3) := by decide +kernel
theorem dX6_writeThing_10 : decode cX6_writeThing 10 = .ok (.aload_n 0, 1) := by decide +kernel
theorem dX6_writeThing_11 : decode cX6_writeThing 11 = .ok (.iload_n 1, 1) := by decide +kernel
theorem dX6_writeThing_12 : decode cX6_writeThing 12 = .ok (.invokevirtual 144, 3) := by decide +kernel
theorem dX6_writeThing_15 : decode cX6_writeThing 15 = .ok (.aload_n 0, 1) := by decide +kernel
theorem dX6_writeThing_16 : decode cX6_writeThing 16 = .ok (.invokevirtual 141, 3) := by decide +kernel
theorem dX6_writeThing_19 : decode cX6_writeThing 19 = .ok (.return_, 1) := by decide +kernel
theorem dX6_pieceStands_0 : decode cX6_pieceStands 0 = .ok (.aload_n 0, 1) := by decide +kernel
theorem dX6_pieceStands_1 : decode cX6_pieceStands 1 = .ok (.iconst 0, 1) := by decide +kernel
theorem dX6_pieceStands_2 : decode cX6_pieceStands 2 = .ok (.putfield 61, 3) := by decide +kernel
theorem dX6_pieceStands_5 : decode cX6_pieceStands 5 = .ok (.aload_n 0, 1) := by decide +kernel
theorem dX6_pieceStands_6 : decode cX6_pieceStands 6 = .ok (.getfield 82, 3) := by decide +kernel
theorem dX6_pieceStands_9 : decode cX6_pieceStands 9 = .ok (.ifCond .le 48, 3) := by decide +kernel
theorem dX6_pieceStands_12 : decode cX6_pieceStands 12 = .ok (.aload_n 0, 1) := by decide +kernel
theorem dX6_pieceStands_13 : decode cX6_pieceStands 13 = .ok (.getfield 18, 3) := by decide +kernel
theorem dX6_pieceStands_16 : decode cX6_pieceStands 16 = .ok (.aload_n 0, 1) := by decide +kernel
theorem dX6_pieceStands_17 : decode cX6_pieceStands 17 = .ok (.getfield 82, 3) := by decide +kernel
theorem dX6_pieceStands_20 : decode cX6_pieceStands 20 = .ok (.iconst 1, 1) := by decide +kernel
theorem dX6_pieceStands_21 : decode cX6_pieceStands 21 = .ok (.isub, 1) := by decide +kernel
theorem dX6_pieceStands_22 : decode cX6_pieceStands 22 = .ok (.iaload, 1) := by decide +kernel
theorem dX6_pieceStands_23 : decode cX6_pieceStands 23 = .ok (.bipush 33, 2) := by decide +kernel
theorem dX6_pieceStands_25 : decode cX6_pieceStands 25 = .ok (.if_icmp .ne 32, 3) := by decide +kernel
theorem dX6_pieceStands_28 : decode cX6_pieceStands 28 = .ok (.aload_n 0, 1) := by decide +kernel
theorem dX6_pieceStands_29 : decode cX6_pieceStands 29 = .ok (.dup, 1) := by decide +kernel
theorem dX6_pieceStands_30 : decode cX6_pieceStands 30 = .ok (.getfield 82, 3) := by decide +kernel
theorem dX6_pieceStands_33 : decode cX6_pieceStands 33 = .ok (.iconst 1, 1) := by decide +kernel
theorem dX6_pieceStands_34 : decode cX6_pieceStands 34 = .ok (.isub, 1) := by decide +kernel
theorem dX6_pieceStands_35 : decode cX6_pieceStands 35 = .ok (.putfield 82, 3) := by decide +kernel
theorem dX6_pieceStands_38 : decode cX6_pieceStands 38 = .ok (.aload_n 0, 1) := by decide +kernel
theorem dX6_pieceStands_39 : decode cX6_pieceStands 39 = .ok (.dup, 1) := by decide +kernel
theorem dX6_pieceStands_40 : decode cX6_pieceStands 40 = .ok (.getfield 85, 3) := by decide +kernel
theorem dX6_pieceStands_43 : decode cX6_pieceStands 43 = .ok (.iconst 1, 1) := by decide +kernel
theorem dX6_pieceStands_44 : decode cX6_pieceStands 44 = .ok (.isub, 1) := by decide +kernel
theorem dX6_pieceStands_45 : decode cX6_pieceStands 45 = .ok (.putfield 85, 3) := by decide +kernel
theorem dX6_pieceStands_48 : decode cX6_pieceStands 48 = .ok (.aload_n 0, 1) := by decide +kernel
theorem dX6_pieceStands_49 : decode cX6_pieceStands 49 = .ok (.bipush (-33), 2) := by decide +kernel
theorem dX6_pieceStands_51 : decode cX6_pieceStands 51 = .ok (.invokevirtual 144, 3) := by decide +kernel
theorem dX6_pieceStands_54 : decode cX6_pieceStands 54 = .ok (.goto (-49), 3) := by decide +kernel
theorem dX6_pieceStands_57 : decode cX6_pieceStands 57 = .ok (.return_, 1) := by decide +kernel
theorem dX6_settle_0 : decode cX6_settle 0 = .ok (.aload_n 0, 1) := by decide +kernel
theorem dX6_settle_1 : decode cX6_settle 1 = .ok (.getfield 82, 3) := by decide +kernel
theorem dX6_settle_4 : decode cX6_settle 4 = .ok (.ifCond .le 64, 3) := by decide +kernel
theorem dX6_settle_7 : decode cX6_settle 7 = .ok (.aload_n 0, 1) := by decide +kernel
theorem dX6_settle_8 : decode cX6_settle 8 = .ok (.getfield 18, 3) := by decide +kernel
theorem dX6_settle_11 : decode cX6_settle 11 = .ok (.aload_n 0, 1) := by decide +kernel
theorem dX6_settle_12 : decode cX6_settle 12 = .ok (.getfield 82, 3) := by decide +kernel
theorem dX6_settle_15 : decode cX6_settle 15 = .ok (.iconst 1, 1) := by decide +kernel
theorem dX6_settle_16 : decode cX6_settle 16 = .ok (.isub, 1) := by decide +kernel
theorem dX6_settle_17 : decode cX6_settle 17 = .ok (.iaload, 1) := by decide +kernel
theorem dX6_settle_18 : decode cX6_settle 18 = .ok (.bipush 40, 2) := by decide +kernel
theorem dX6_settle_20 : decode cX6_settle 20 = .ok (.if_icmp .eq 48, 3) := by decide +kernel
theorem dX6_settle_23 : decode cX6_settle 23 = .ok (.aload_n 0, 1) := by decide +kernel
theorem dX6_settle_24 : decode cX6_settle 24 = .ok (.getfield 18, 3) := by decide +kernel
theorem dX6_settle_27 : decode cX6_settle 27 = .ok (.aload_n 0, 1) := by decide +kernel
theorem dX6_settle_28 : decode cX6_settle 28 = .ok (.getfield 82, 3) := by decide +kernel
theorem dX6_settle_31 : decode cX6_settle 31 = .ok (.iconst 1, 1) := by decide +kernel
theorem dX6_settle_32 : decode cX6_settle 32 = .ok (.isub, 1) := by decide +kernel
theorem dX6_settle_33 : decode cX6_settle 33 = .ok (.iaload, 1) := by decide +kernel
theorem dX6_settle_34 : decode cX6_settle 34 = .ok (.invokestatic 138, 3) := by decide +kernel
theorem dX6_settle_37 : decode cX6_settle 37 = .ok (.iload_n 1, 1) := by decide +kernel
theorem dX6_settle_38 : decode cX6_settle 38 = .ok (.if_icmp .lt 30, 3) := by decide +kernel
theorem dX6_settle_41 : decode cX6_settle 41 = .ok (.aload_n 0, 1) := by decide +kernel
theorem dX6_settle_42 : decode cX6_settle 42 = .ok (.dup, 1) := by decide +kernel
theorem dX6_settle_43 : decode cX6_settle 43 = .ok (.getfield 82, 3) := by decide +kernel
theorem dX6_settle_46 : decode cX6_settle 46 = .ok (.iconst 1, 1) := by decide +kernel
theorem dX6_settle_47 : decode cX6_settle 47 = .ok (.isub, 1) := by decide +kernel
theorem dX6_settle_48 : decode cX6_settle 48 = .ok (.putfield 82, 3) := by decide +kernel
theorem dX6_settle_51 : decode cX6_settle 51 = .ok (.aload_n 0, 1) := by decide +kernel
theorem dX6_settle_52 : decode cX6_settle 52 = .ok (.aload_n 0, 1) := by decide +kernel
theorem dX6_settle_53 : decode cX6_settle 53 = .ok (.getfield 18, 3) := by decide +kernel
theorem dX6_settle_56 : decode cX6_settle 56 = .ok (.aload_n 0, 1) := by decide +kernel
theorem dX6_settle_57 : decode cX6_settle 57 = .ok (.getfield 82, 3) := by decide +kernel
theorem dX6_settle_60 : decode cX6_settle 60 = .ok (.iaload, 1) := by decide +kernel
theorem dX6_settle_61 : decode cX6_settle 61 = .ok (.ineg, 1) := by decide +kernel
theorem dX6_settle_62 : decode cX6_settle 62 = .ok (.invokevirtual 144, 3) := by decide +kernel
theorem dX6_settle_65 : decode cX6_settle 65 = .ok (.goto (-65), 3) := by decide +kernel
theorem dX6_settle_68 : decode cX6_settle 68 = .ok (.return_, 1) := by decide +kernel
theorem dX6_write_0 : decode cX6_write 0 = .ok (.aload_n 0, 1) := by decide +kernel
theorem dX6_write_1 : decode cX6_write 1 = .ok (.getfield 25, 3) := by decide +kernel
theorem dX6_write_4 : decode cX6_write 4 = .ok (.bipush 96, 2) := by decide +kernel
theorem dX6_write_6 : decode cX6_write 6 = .ok (.if_icmp .ge 23, 3) := by decide +kernel
theorem dX6_write_9 : decode cX6_write 9 = .ok (.aload_n 0, 1) := by decide +kernel
theorem dX6_write_10 : decode cX6_write 10 = .ok (.getfield 15, 3) := by decide +kernel
theorem dX6_write_13 : decode cX6_write 13 = .ok (.aload_n 0, 1) := by decide +kernel
theorem dX6_write_14 : decode cX6_write 14 = .ok (.getfield 25, 3) := by decide +kernel
theorem dX6_write_17 : decode cX6_write 17 = .ok (.iload_n 1, 1) := by decide +kernel
theorem dX6_write_18 : decode cX6_write 18 = .ok (.iastore, 1) := by decide +kernel
theorem dX6_write_19 : decode cX6_write 19 = .ok (.aload_n 0, 1) := by decide +kernel
theorem dX6_write_20 : decode cX6_write 20 = .ok (.dup, 1) := by decide +kernel
theorem dX6_write_21 : decode cX6_write 21 = .ok (.getfield 25, 3) := by decide +kernel
theorem dX6_write_24 : decode cX6_write 24 = .ok (.iconst 1, 1) := by decide +kernel
theorem dX6_write_25 : decode cX6_write 25 = .ok (.iadd, 1) := by decide +kernel
theorem dX6_write_26 : decode cX6_write 26 = .ok (.putfield 25, 3) := by decide +kernel
theorem dX6_write_29 : decode cX6_write 29 = .ok (.return_, 1) := by decide +kernel
theorem dX6_hold_0 : decode cX6_hold 0 = .ok (.aload_n 0, 1) := by decide +kernel
theorem dX6_hold_1 : decode cX6_hold 1 = .ok (.getfield 82, 3) := by decide +kernel
theorem dX6_hold_4 : decode cX6_hold 4 = .ok (.bipush 96, 2) := by decide +kernel
theorem dX6_hold_6 : decode cX6_hold 6 = .ok (.if_icmp .ge 23, 3) := by decide +kernel
theorem dX6_hold_9 : decode cX6_hold 9 = .ok (.aload_n 0, 1) := by decide +kernel
theorem dX6_hold_10 : decode cX6_hold 10 = .ok (.getfield 18, 3) := by decide +kernel
theorem dX6_hold_13 : decode cX6_hold 13 = .ok (.aload_n 0, 1) := by decide +kernel
theorem dX6_hold_14 : decode cX6_hold 14 = .ok (.getfield 82, 3) := by decide +kernel
theorem dX6_hold_17 : decode cX6_hold 17 = .ok (.iload_n 1, 1) := by decide +kernel
theorem dX6_hold_18 : decode cX6_hold 18 = .ok (.iastore, 1) := by decide +kernel
theorem dX6_hold_19 : decode cX6_hold 19 = .ok (.aload_n 0, 1) := by decide +kernel
theorem dX6_hold_20 : decode cX6_hold 20 = .ok (.dup, 1) := by decide +kernel
theorem dX6_hold_21 : decode cX6_hold 21 = .ok (.getfield 82, 3) := by decide +kernel
theorem dX6_hold_24 : decode cX6_hold 24 = .ok (.iconst 1, 1) := by decide +kernel
theorem dX6_hold_25 : decode cX6_hold 25 = .ok (.iadd, 1) := by decide +kernel
theorem dX6_hold_26 : decode cX6_hold 26 = .ok (.putfield 82, 3) := by decide +kernel
theorem dX6_hold_29 : decode cX6_hold 29 = .ok (.return_, 1) := by decide +kernel
theorem dX6_tightnessOf_0 : decode cX6_tightnessOf 0 = .ok (.iload_n 0, 1) := by decide +kernel
theorem dX6_tightnessOf_1 : decode cX6_tightnessOf 1 = .ok (.lookupswitch 93 #[(38, 85), (42, 91), (43, 89), (45, 89), (47, 91), (60, 87), (61, 87), (62, 87), (124, 83)], 83) := by decide +kernel
theorem dX6_tightnessOf_84 : decode cX6_tightnessOf 84 = .ok (.iconst 1, 1) := by decide +kernel
theorem dX6_tightnessOf_85 : decode cX6_tightnessOf 85 = .ok (.ireturn, 1) := by decide +kernel
theorem dX6_tightnessOf_86 : decode cX6_tightnessOf 86 = .ok (.iconst 2, 1) := by decide +kernel
theorem dX6_tightnessOf_87 : decode cX6_tightnessOf 87 = .ok (.ireturn, 1) := by decide +kernel
theorem dX6_tightnessOf_88 : decode cX6_tightnessOf 88 = .ok (.iconst 3, 1) := by decide +kernel
theorem dX6_tightnessOf_89 : decode cX6_tightnessOf 89 = .ok (.ireturn, 1) := by decide +kernel
theorem dX6_tightnessOf_90 : decode cX6_tightnessOf 90 = .ok (.iconst 4, 1) := by decide +kernel
theorem dX6_tightnessOf_91 : decode cX6_tightnessOf 91 = .ok (.ireturn, 1) := by decide +kernel
theorem dX6_tightnessOf_92 : decode cX6_tightnessOf 92 = .ok (.iconst 5, 1) := by decide +kernel
theorem dX6_tightnessOf_93 : decode cX6_tightnessOf 93 = .ok (.ireturn, 1) := by decide +kernel
theorem dX6_tightnessOf_94 : decode cX6_tightnessOf 94 = .ok (.iconst 0, 1) := by decide +kernel
theorem dX6_tightnessOf_95 : decode cX6_tightnessOf 95 = .ok (.ireturn, 1) := by decide +kernel
theorem dX7_init_0 : decode cX7_init 0 = .ok (.aload_n 0, 1) := by decide +kernel
theorem dX7_init_1 : decode cX7_init 1 = .ok (.invokespecial 1, 3) := by decide +kernel
theorem dX7_init_4 : decode cX7_init 4 = .ok (.aload_n 0, 1) := by decide +kernel
theorem dX7_init_5 : decode cX7_init 5 = .ok (.iload_n 1, 1) := by decide +kernel
theorem dX7_init_6 : decode cX7_init 6 = .ok (.putfield 7, 3) := by decide +kernel
theorem dX7_init_9 : decode cX7_init 9 = .ok (.aload_n 0, 1) := by decide +kernel
theorem dX7_init_10 : decode cX7_init 10 = .ok (.iload_n 2, 1) := by decide +kernel
theorem dX7_init_11 : decode cX7_init 11 = .ok (.putfield 13, 3) := by decide +kernel
theorem dX7_init_14 : decode cX7_init 14 = .ok (.aload_n 0, 1) := by decide +kernel
theorem dX7_init_15 : decode cX7_init 15 = .ok (.aload_n 3, 1) := by decide +kernel
theorem dX7_init_16 : decode cX7_init 16 = .ok (.putfield 16, 3) := by decide +kernel
theorem dX7_init_19 : decode cX7_init 19 = .ok (.aload_n 0, 1) := by decide +kernel
theorem dX7_init_20 : decode cX7_init 20 = .ok (.iload_n 2, 1) := by decide +kernel
theorem dX7_init_21 : decode cX7_init 21 = .ok (.iconst 1, 1) := by decide +kernel
theorem dX7_init_22 : decode cX7_init 22 = .ok (.iadd, 1) := by decide +kernel
theorem dX7_init_23 : decode cX7_init 23 = .ok (.newarray .int, 2) := by decide +kernel
theorem dX7_init_25 : decode cX7_init 25 = .ok (.putfield 20, 3) := by decide +kernel
theorem dX7_init_28 : decode cX7_init 28 = .ok (.return_, 1) := by decide +kernel
theorem dX7_value_0 : decode cX7_value 0 = .ok (.iconst 0, 1) := by decide +kernel
theorem dX7_value_1 : decode cX7_value 1 = .ok (.istore 4, 2) := by decide +kernel
theorem dX7_value_3 : decode cX7_value 3 = .ok (.iconst 0, 1) := by decide +kernel
theorem dX7_value_4 : decode cX7_value 4 = .ok (.istore 5, 2) := by decide +kernel
theorem dX7_value_6 : decode cX7_value 6 = .ok (.iload 5, 2) := by decide +kernel
theorem dX7_value_8 : decode cX7_value 8 = .ok (.aload_n 0, 1) := by decide +kernel
theorem dX7_value_9 : decode cX7_value 9 = .ok (.getfield 16, 3) := by decide +kernel
theorem dX7_value_12 : decode cX7_value 12 = .ok (.arraylength, 1) := by decide +kernel
theorem dX7_value_13 : decode cX7_value 13 = .ok (.if_icmp .ge 139, 3) := by decide +kernel
theorem dX7_value_16 : decode cX7_value 16 = .ok (.aload_n 0, 1) := by decide +kernel
theorem dX7_value_17 : decode cX7_value 17 = .ok (.getfield 16, 3) := by decide +kernel
theorem dX7_value_20 : decode cX7_value 20 = .ok (.iload 5, 2) := by decide +kernel
theorem dX7_value_22 : decode cX7_value 22 = .ok (.iaload, 1) := by decide +kernel
theorem dX7_value_23 : decode cX7_value 23 = .ok (.istore 6, 2) := by decide +kernel
theorem dX7_value_25 : decode cX7_value 25 = .ok (.iload 6, 2) := by decide +kernel
theorem dX7_value_27 : decode cX7_value 27 = .ok (.bipush (-3), 2) := by decide +kernel
theorem dX7_value_29 : decode cX7_value 29 = .ok (.if_icmp .lt 48, 3) := by decide +kernel
theorem dX7_value_32 : decode cX7_value 32 = .ok (.iinc 4 1, 3) := by decide +kernel
theorem dX7_value_35 : decode cX7_value 35 = .ok (.aload_n 0, 1) := by decide +kernel
theorem dX7_value_36 : decode cX7_value 36 = .ok (.getfield 20, 3) := by decide +kernel
theorem dX7_value_39 : decode cX7_value 39 = .ok (.iload 4, 2) := by decide +kernel
theorem dX7_value_41 : decode cX7_value 41 = .ok (.iload 6, 2) := by decide +kernel
theorem dX7_value_43 : decode cX7_value 43 = .ok (.ifCond .lt 8, 3) := by decide +kernel
theorem dX7_value_46 : decode cX7_value 46 = .ok (.iload 6, 2) := by decide +kernel
theorem dX7_value_48 : decode cX7_value 48 = .ok (.goto 25, 3) := by decide +kernel
theorem dX7_value_51 : decode cX7_value 51 = .ok (.iload 6, 2) := by decide +kernel
theorem dX7_value_53 : decode cX7_value 53 = .ok (.iconst (-1), 1) := by decide +kernel
theorem dX7_value_54 : decode cX7_value 54 = .ok (.if_icmp .ne 7, 3) := by decide +kernel
theorem dX7_value_57 : decode cX7_value 57 = .ok (.iload_n 1, 1) := by decide +kernel
theorem dX7_value_58 : decode cX7_value 58 = .ok (.goto 15, 3) := by decide +kernel
theorem dX7_value_61 : decode cX7_value 61 = .ok (.iload 6, 2) := by decide +kernel
theorem dX7_value_63 : decode cX7_value 63 = .ok (.bipush (-3), 2) := by decide +kernel
theorem dX7_value_65 : decode cX7_value 65 = .ok (.if_icmp .ne 7, 3) := by decide +kernel
theorem dX7_value_68 : decode cX7_value 68 = .ok (.iload_n 3, 1) := by decide +kernel
theorem dX7_value_69 : decode cX7_value 69 = .ok (.goto 4, 3) := by decide +kernel
theorem dX7_value_72 : decode cX7_value 72 = .ok (.iload_n 2, 1) := by decide +kernel
theorem dX7_value_73 : decode cX7_value 73 = .ok (.iastore, 1) := by decide +kernel
theorem dX7_value_74 : decode cX7_value 74 = .ok (.goto 72, 3) := by decide +kernel
theorem dX7_value_77 : decode cX7_value 77 = .ok (.iload 6, 2) := by decide +kernel
theorem dX7_value_79 : decode cX7_value 79 = .ok (.bipush (-33), 2) := by decide +kernel
theorem dX7_value_81 : decode cX7_value 81 = .ok (.if_icmp .ne 28, 3) := by decide +kernel
theorem dX7_value_84 : decode cX7_value 84 = .ok (.aload_n 0, 1) := by decide +kernel
theorem dX7_value_85 : decode cX7_value 85 = .ok (.getfield 20, 3) := by decide +kernel
theorem dX7_value_88 : decode cX7_value 88 = .ok (.iload 4, 2) := by decide +kernel
theorem dX7_value_90 : decode cX7_value 90 = .ok (.aload_n 0, 1) := by decide +kernel
theorem dX7_value_91 : decode cX7_value 91 = .ok (.getfield 20, 3) := by decide +kernel
theorem dX7_value_94 : decode cX7_value 94 = .ok (.iload 4, 2) := by decide +kernel
theorem dX7_value_96 : decode cX7_value 96 = .ok (.iaload, 1) := by decide +kernel
theorem dX7_value_97 : decode cX7_value 97 = .ok (.ifCond .ne 7, 3) := by decide +kernel
theorem dX7_value_100 : decode cX7_value 100 = .ok (.iconst 1, 1) := by decide +kernel
theorem dX7_value_101 : decode cX7_value 101 = .ok (.goto 4, 3) := by decide +kernel
theorem dX7_value_104 : decode cX7_value 104 = .ok (.iconst 0, 1) := by decide +kernel
theorem dX7_value_105 : decode cX7_value 105 = .ok (.iastore, 1) := by decide +kernel
theorem dX7_value_106 : decode cX7_value 106 = .ok (.goto 40, 3) := by decide +kernel
theorem dX7_value_109 : decode cX7_value 109 = .ok (.iload 4, 2) := by decide +kernel
theorem dX7_value_111 : decode cX7_value 111 = .ok (.ifCond .le 35, 3) := by decide +kernel
theorem dX7_value_114 : decode cX7_value 114 = .ok (.iinc 4 (-1), 3) := by decide +kernel
theorem dX7_value_117 : decode cX7_value 117 = .ok (.aload_n 0, 1) := by decide +kernel
theorem dX7_value_118 : decode cX7_value 118 = .ok (.getfield 20, 3) := by decide +kernel
theorem dX7_value_121 : decode cX7_value 121 = .ok (.iload 4, 2) := by decide +kernel
theorem dX7_value_123 : decode cX7_value 123 = .ok (.iload 6, 2) := by decide +kernel
theorem dX7_value_125 : decode cX7_value 125 = .ok (.ineg, 1) := by decide +kernel
theorem dX7_value_126 : decode cX7_value 126 = .ok (.aload_n 0, 1) := by decide +kernel
theorem dX7_value_127 : decode cX7_value 127 = .ok (.getfield 20, 3) := by decide +kernel
theorem dX7_value_130 : decode cX7_value 130 = .ok (.iload 4, 2) := by decide +kernel
theorem dX7_value_132 : decode cX7_value 132 = .ok (.iaload, 1) := by decide +kernel
theorem dX7_value_133 : decode cX7_value 133 = .ok (.aload_n 0, 1) := by decide +kernel
theorem dX7_value_134 : decode cX7_value 134 = .ok (.getfield 20, 3) := by decide +kernel
theorem dX7_value_137 : decode cX7_value 137 = .ok (.iload 4, 2) := by decide +kernel
theorem dX7_value_139 : decode cX7_value 139 = .ok (.iconst 1, 1) := by decide +kernel
theorem dX7_value_140 : decode cX7_value 140 = .ok (.iadd, 1) := by decide +kernel
theorem dX7_value_141 : decode cX7_value 141 = .ok (.iaload, 1) := by decide +kernel
theorem dX7_value_142 : decode cX7_value 142 = .ok (.invokestatic 23, 3) := by decide +kernel
theorem dX7_value_145 : decode cX7_value 145 = .ok (.iastore, 1) := by decide +kernel
theorem dX7_value_146 : decode cX7_value 146 = .ok (.iinc 5 1, 3) := by decide +kernel
theorem dX7_value_149 : decode cX7_value 149 = .ok (.goto (-143), 3) := by decide +kernel
theorem dX7_value_152 : decode cX7_value 152 = .ok (.aload_n 0, 1) := by decide +kernel
theorem dX7_value_153 : decode cX7_value 153 = .ok (.getfield 20, 3) := by decide +kernel
theorem dX7_value_156 : decode cX7_value 156 = .ok (.iload 4, 2) := by decide +kernel
theorem dX7_value_158 : decode cX7_value 158 = .ok (.iaload, 1) := by decide +kernel
theorem dX7_value_159 : decode cX7_value 159 = .ok (.ireturn, 1) := by decide +kernel
theorem dX7_join_0 : decode cX7_join 0 = .ok (.iload_n 0, 1) := by decide +kernel
theorem dX7_join_1 : decode cX7_join 1 = .ok (.lookupswitch 168 #[(38, 97), (42, 152), (43, 144), (45, 148), (47, 156), (60, 111), (61, 122), (62, 133), (124, 83)], 83) := by decide +kernel
theorem dX7_join_84 : decode cX7_join 84 = .ok (.iload_n 1, 1) := by decide +kernel
theorem dX7_join_85 : decode cX7_join 85 = .ok (.ifCond .ne 7, 3) := by decide +kernel
theorem dX7_join_88 : decode cX7_join 88 = .ok (.iload_n 2, 1) := by decide +kernel
theorem dX7_join_89 : decode cX7_join 89 = .ok (.ifCond .eq 7, 3) := by decide +kernel
theorem dX7_join_92 : decode cX7_join 92 = .ok (.iconst 1, 1) := by decide +kernel
theorem dX7_join_93 : decode cX7_join 93 = .ok (.goto 4, 3) := by decide +kernel
theorem dX7_join_96 : decode cX7_join 96 = .ok (.iconst 0, 1) := by decide +kernel
theorem dX7_join_97 : decode cX7_join 97 = .ok (.ireturn, 1) := by decide +kernel
theorem dX7_join_98 : decode cX7_join 98 = .ok (.iload_n 1, 1) := by decide +kernel
theorem dX7_join_99 : decode cX7_join 99 = .ok (.ifCond .eq 11, 3) := by decide +kernel
theorem dX7_join_102 : decode cX7_join 102 = .ok (.iload_n 2, 1) := by decide +kernel
theorem dX7_join_103 : decode cX7_join 103 = .ok (.ifCond .eq 7, 3) := by decide +kernel
theorem dX7_join_106 : decode cX7_join 106 = .ok (.iconst 1, 1) := by decide +kernel
theorem dX7_join_107 : decode cX7_join 107 = .ok (.goto 4, 3) := by decide +kernel
theorem dX7_join_110 : decode cX7_join 110 = .ok (.iconst 0, 1) := by decide +kernel
theorem dX7_join_111 : decode cX7_join 111 = .ok (.ireturn, 1) := by decide +kernel
theorem dX7_join_112 : decode cX7_join 112 = .ok (.iload_n 1, 1) := by decide +kernel
theorem dX7_join_113 : decode cX7_join 113 = .ok (.iload_n 2, 1) := by decide +kernel
theorem dX7_join_114 : decode cX7_join 114 = .ok (.if_icmp .ge 7, 3) := by decide +kernel
theorem dX7_join_117 : decode cX7_join 117 = .ok (.iconst 1, 1) := by decide +kernel
theorem dX7_join_118 : decode cX7_join 118 = .ok (.goto 4, 3) := by decide +kernel
theorem dX7_join_121 : decode cX7_join 121 = .ok (.iconst 0, 1) := by decide +kernel
theorem dX7_join_122 : decode cX7_join 122 = .ok (.ireturn, 1) := by decide +kernel
theorem dX7_join_123 : decode cX7_join 123 = .ok (.iload_n 1, 1) := by decide +kernel
theorem dX7_join_124 : decode cX7_join 124 = .ok (.iload_n 2, 1) := by decide +kernel
theorem dX7_join_125 : decode cX7_join 125 = .ok (.if_icmp .ne 7, 3) := by decide +kernel
theorem dX7_join_128 : decode cX7_join 128 = .ok (.iconst 1, 1) := by decide +kernel
theorem dX7_join_129 : decode cX7_join 129 = .ok (.goto 4, 3) := by decide +kernel
theorem dX7_join_132 : decode cX7_join 132 = .ok (.iconst 0, 1) := by decide +kernel
theorem dX7_join_133 : decode cX7_join 133 = .ok (.ireturn, 1) := by decide +kernel
theorem dX7_join_134 : decode cX7_join 134 = .ok (.iload_n 1, 1) := by decide +kernel
theorem dX7_join_135 : decode cX7_join 135 = .ok (.iload_n 2, 1) := by decide +kernel
theorem dX7_join_136 : decode cX7_join 136 = .ok (.if_icmp .le 7, 3) := by decide +kernel
theorem dX7_join_139 : decode cX7_join 139 = .ok (.iconst 1, 1) := by decide +kernel
theorem dX7_join_140 : decode cX7_join 140 = .ok (.goto 4, 3) := by decide +kernel
theorem dX7_join_143 : decode cX7_join 143 = .ok (.iconst 0, 1) := by decide +kernel
theorem dX7_join_144 : decode cX7_join 144 = .ok (.ireturn, 1) := by decide +kernel
theorem dX7_join_145 : decode cX7_join 145 = .ok (.iload_n 1, 1) := by decide +kernel
theorem dX7_join_146 : decode cX7_join 146 = .ok (.iload_n 2, 1) := by decide +kernel
theorem dX7_join_147 : decode cX7_join 147 = .ok (.iadd, 1) := by decide +kernel
theorem dX7_join_148 : decode cX7_join 148 = .ok (.ireturn, 1) := by decide +kernel
theorem dX7_join_149 : decode cX7_join 149 = .ok (.iload_n 1, 1) := by decide +kernel
theorem dX7_join_150 : decode cX7_join 150 = .ok (.iload_n 2, 1) := by decide +kernel
theorem dX7_join_151 : decode cX7_join 151 = .ok (.isub, 1) := by decide +kernel
theorem dX7_join_152 : decode cX7_join 152 = .ok (.ireturn, 1) := by decide +kernel
theorem dX7_join_153 : decode cX7_join 153 = .ok (.iload_n 1, 1) := by decide +kernel
theorem dX7_join_154 : decode cX7_join 154 = .ok (.iload_n 2, 1) := by decide +kernel
theorem dX7_join_155 : decode cX7_join 155 = .ok (.imul, 1) := by decide +kernel
theorem dX7_join_156 : decode cX7_join 156 = .ok (.ireturn, 1) := by decide +kernel
theorem dX7_join_157 : decode cX7_join 157 = .ok (.iload_n 2, 1) := by decide +kernel
theorem dX7_join_158 : decode cX7_join 158 = .ok (.ifCond .ne 7, 3) := by decide +kernel
theorem dX7_join_161 : decode cX7_join 161 = .ok (.iconst 0, 1) := by decide +kernel
theorem dX7_join_162 : decode cX7_join 162 = .ok (.goto 6, 3) := by decide +kernel
theorem dX7_join_165 : decode cX7_join 165 = .ok (.iload_n 1, 1) := by decide +kernel
theorem dX7_join_166 : decode cX7_join 166 = .ok (.iload_n 2, 1) := by decide +kernel
theorem dX7_join_167 : decode cX7_join 167 = .ok (.idiv, 1) := by decide +kernel
theorem dX7_join_168 : decode cX7_join 168 = .ok (.ireturn, 1) := by decide +kernel
theorem dX7_join_169 : decode cX7_join 169 = .ok (.iconst 0, 1) := by decide +kernel
theorem dX7_join_170 : decode cX7_join 170 = .ok (.ireturn, 1) := by decide +kernel
theorem dX8_init_0 : decode cX8_init 0 = .ok (.aload_n 0, 1) := by decide +kernel
theorem dX8_init_1 : decode cX8_init 1 = .ok (.invokespecial 1, 3) := by decide +kernel
theorem dX8_init_4 : decode cX8_init 4 = .ok (.aload_n 0, 1) := by decide +kernel
theorem dX8_init_5 : decode cX8_init 5 = .ok (.new 7, 3) := by decide +kernel
theorem dX8_init_8 : decode cX8_init 8 = .ok (.dup, 1) := by decide +kernel
theorem dX8_init_9 : decode cX8_init 9 = .ok (.invokespecial 9, 3) := by decide +kernel
theorem dX8_init_12 : decode cX8_init 12 = .ok (.putfield 10, 3) := by decide +kernel
theorem dX8_init_15 : decode cX8_init 15 = .ok (.aload_n 0, 1) := by decide +kernel
theorem dX8_init_16 : decode cX8_init 16 = .ok (.new 7, 3) := by decide +kernel
theorem dX8_init_19 : decode cX8_init 19 = .ok (.dup, 1) := by decide +kernel
theorem dX8_init_20 : decode cX8_init 20 = .ok (.invokespecial 9, 3) := by decide +kernel
theorem dX8_init_23 : decode cX8_init 23 = .ok (.putfield 16, 3) := by decide +kernel
theorem dX8_init_26 : decode cX8_init 26 = .ok (.aload_n 0, 1) := by decide +kernel
theorem dX8_init_27 : decode cX8_init 27 = .ok (.new 7, 3) := by decide +kernel
theorem dX8_init_30 : decode cX8_init 30 = .ok (.dup, 1) := by decide +kernel
theorem dX8_init_31 : decode cX8_init 31 = .ok (.invokespecial 9, 3) := by decide +kernel
theorem dX8_init_34 : decode cX8_init 34 = .ok (.putfield 19, 3) := by decide +kernel
theorem dX8_init_37 : decode cX8_init 37 = .ok (.aload_n 0, 1) := by decide +kernel
theorem dX8_init_38 : decode cX8_init 38 = .ok (.new 22, 3) := by decide +kernel
theorem dX8_init_41 : decode cX8_init 41 = .ok (.dup, 1) := by decide +kernel
theorem dX8_init_42 : decode cX8_init 42 = .ok (.invokespecial 24, 3) := by decide +kernel
theorem dX8_init_45 : decode cX8_init 45 = .ok (.putfield 25, 3) := by decide +kernel
theorem dX8_init_48 : decode cX8_init 48 = .ok (.aload_n 0, 1) := by decide +kernel
theorem dX8_init_49 : decode cX8_init 49 = .ok (.new 29, 3) := by decide +kernel
theorem dX8_init_52 : decode cX8_init 52 = .ok (.dup, 1) := by decide +kernel
theorem dX8_init_53 : decode cX8_init 53 = .ok (.invokespecial 31, 3) := by decide +kernel
theorem dX8_init_56 : decode cX8_init 56 = .ok (.putfield 32, 3) := by decide +kernel
theorem dX8_init_59 : decode cX8_init 59 = .ok (.aload_n 0, 1) := by decide +kernel
theorem dX8_init_60 : decode cX8_init 60 = .ok (.iconst 4, 1) := by decide +kernel
theorem dX8_init_61 : decode cX8_init 61 = .ok (.anewarray 36, 3) := by decide +kernel
theorem dX8_init_64 : decode cX8_init 64 = .ok (.putfield 38, 3) := by decide +kernel
theorem dX8_init_67 : decode cX8_init 67 = .ok (.aload_n 0, 1) := by decide +kernel
theorem dX8_init_68 : decode cX8_init 68 = .ok (.iconst 5, 1) := by decide +kernel
theorem dX8_init_69 : decode cX8_init 69 = .ok (.anewarray 42, 3) := by decide +kernel
theorem dX8_init_72 : decode cX8_init 72 = .ok (.putfield 44, 3) := by decide +kernel
theorem dX8_init_75 : decode cX8_init 75 = .ok (.aload_n 0, 1) := by decide +kernel
theorem dX8_init_76 : decode cX8_init 76 = .ok (.bipush 60, 2) := by decide +kernel
theorem dX8_init_78 : decode cX8_init 78 = .ok (.newarray .int, 2) := by decide +kernel
theorem dX8_init_80 : decode cX8_init 80 = .ok (.putfield 48, 3) := by decide +kernel
theorem dX8_init_83 : decode cX8_init 83 = .ok (.iconst 0, 1) := by decide +kernel
theorem dX8_init_84 : decode cX8_init 84 = .ok (.istore_n 1, 1) := by decide +kernel
theorem dX8_init_85 : decode cX8_init 85 = .ok (.iload_n 1, 1) := by decide +kernel
theorem dX8_init_86 : decode cX8_init 86 = .ok (.iconst 4, 1) := by decide +kernel
theorem dX8_init_87 : decode cX8_init 87 = .ok (.if_icmp .ge 22, 3) := by decide +kernel
theorem dX8_init_90 : decode cX8_init 90 = .ok (.aload_n 0, 1) := by decide +kernel
theorem dX8_init_91 : decode cX8_init 91 = .ok (.getfield 38, 3) := by decide +kernel
theorem dX8_init_94 : decode cX8_init 94 = .ok (.iload_n 1, 1) := by decide +kernel
theorem dX8_init_95 : decode cX8_init 95 = .ok (.new 36, 3) := by decide +kernel
theorem dX8_init_98 : decode cX8_init 98 = .ok (.dup, 1) := by decide +kernel
theorem dX8_init_99 : decode cX8_init 99 = .ok (.invokespecial 52, 3) := by decide +kernel
theorem dX8_init_102 : decode cX8_init 102 = .ok (.aastore, 1) := by decide +kernel
theorem dX8_init_103 : decode cX8_init 103 = .ok (.iinc 1 1, 3) := by decide +kernel
theorem dX8_init_106 : decode cX8_init 106 = .ok (.goto (-21), 3) := by decide +kernel
theorem dX8_init_109 : decode cX8_init 109 = .ok (.iconst 0, 1) := by decide +kernel
theorem dX8_init_110 : decode cX8_init 110 = .ok (.istore_n 1, 1) := by decide +kernel
theorem dX8_init_111 : decode cX8_init 111 = .ok (.iload_n 1, 1) := by decide +kernel
theorem dX8_init_112 : decode cX8_init 112 = .ok (.iconst 5, 1) := by decide +kernel
theorem dX8_init_113 : decode cX8_init 113 = .ok (.if_icmp .ge 22, 3) := by decide +kernel
theorem dX8_init_116 : decode cX8_init 116 = .ok (.aload_n 0, 1) := by decide +kernel
theorem dX8_init_117 : decode cX8_init 117 = .ok (.getfield 44, 3) := by decide +kernel
theorem dX8_init_120 : decode cX8_init 120 = .ok (.iload_n 1, 1) := by decide +kernel
theorem dX8_init_121 : decode cX8_init 121 = .ok (.new 42, 3) := by decide +kernel
theorem dX8_init_124 : decode cX8_init 124 = .ok (.dup, 1) := by decide +kernel
theorem dX8_init_125 : decode cX8_init 125 = .ok (.invokespecial 53, 3) := by decide +kernel
theorem dX8_init_128 : decode cX8_init 128 = .ok (.aastore, 1) := by decide +kernel
theorem dX8_init_129 : decode cX8_init 129 = .ok (.iinc 1 1, 3) := by decide +kernel
theorem dX8_init_132 : decode cX8_init 132 = .ok (.goto (-21), 3) := by decide +kernel
theorem dX8_init_135 : decode cX8_init 135 = .ok (.return_, 1) := by decide +kernel
theorem dX8_bench_0 : decode cX8_bench 0 = .ok (.iload_n 1, 1) := by decide +kernel
theorem dX8_bench_1 : decode cX8_bench 1 = .ok (.iconst 1, 1) := by decide +kernel
theorem dX8_bench_2 : decode cX8_bench 2 = .ok (.bipush 12, 2) := by decide +kernel
theorem dX8_bench_4 : decode cX8_bench 4 = .ok (.invokestatic 54, 3) := by decide +kernel
theorem dX8_bench_7 : decode cX8_bench 7 = .ok (.ifCond .eq 21, 3) := by decide +kernel
theorem dX8_bench_10 : decode cX8_bench 10 = .ok (.iload_n 2, 1) := by decide +kernel
theorem dX8_bench_11 : decode cX8_bench 11 = .ok (.iconst 0, 1) := by decide +kernel
theorem dX8_bench_12 : decode cX8_bench 12 = .ok (.iconst 1, 1) := by decide +kernel
theorem dX8_bench_13 : decode cX8_bench 13 = .ok (.invokestatic 54, 3) := by decide +kernel
theorem dX8_bench_16 : decode cX8_bench 16 = .ok (.ifCond .eq 12, 3) := by decide +kernel
theorem dX8_bench_19 : decode cX8_bench 19 = .ok (.iload_n 3, 1) := by decide +kernel
theorem dX8_bench_20 : decode cX8_bench 20 = .ok (.iconst 0, 1) := by decide +kernel
theorem dX8_bench_21 : decode cX8_bench 21 = .ok (.iconst 1, 1) := by decide +kernel
theorem dX8_bench_22 : decode cX8_bench 22 = .ok (.invokestatic 54, 3) := by decide +kernel
theorem dX8_bench_25 : decode cX8_bench 25 = .ok (.ifCond .ne 6, 3) := by decide +kernel
theorem dX8_bench_28 : decode cX8_bench 28 = .ok (.ldc 58, 2) := by decide +kernel
theorem dX8_bench_30 : decode cX8_bench 30 = .ok (.ireturn, 1) := by decide +kernel
theorem dX8_bench_31 : decode cX8_bench 31 = .ok (.aload_n 0, 1) := by decide +kernel
theorem dX8_bench_32 : decode cX8_bench 32 = .ok (.getfield 10, 3) := by decide +kernel
theorem dX8_bench_35 : decode cX8_bench 35 = .ok (.iload_n 1, 1) := by decide +kernel
theorem dX8_bench_36 : decode cX8_bench 36 = .ok (.iload_n 2, 1) := by decide +kernel
theorem dX8_bench_37 : decode cX8_bench 37 = .ok (.iload_n 3, 1) := by decide +kernel
theorem dX8_bench_38 : decode cX8_bench 38 = .ok (.invokevirtual 59, 3) := by decide +kernel
theorem dX8_bench_41 : decode cX8_bench 41 = .ok (.ireturn, 1) := by decide +kernel
theorem dX8_sitter_0 : decode cX8_sitter 0 = .ok (.iload_n 1, 1) := by decide +kernel
theorem dX8_sitter_1 : decode cX8_sitter 1 = .ok (.invokestatic 63, 3) := by decide +kernel
theorem dX8_sitter_4 : decode cX8_sitter 4 = .ok (.ifCond .eq 14, 3) := by decide +kernel
theorem dX8_sitter_7 : decode cX8_sitter 7 = .ok (.aload_n 0, 1) := by decide +kernel
theorem dX8_sitter_8 : decode cX8_sitter 8 = .ok (.getfield 10, 3) := by decide +kernel
theorem dX8_sitter_11 : decode cX8_sitter 11 = .ok (.iload_n 1, 1) := by decide +kernel
theorem dX8_sitter_12 : decode cX8_sitter 12 = .ok (.invokevirtual 67, 3) := by decide +kernel
theorem dX8_sitter_15 : decode cX8_sitter 15 = .ok (.goto 5, 3) := by decide +kernel
theorem dX8_sitter_18 : decode cX8_sitter 18 = .ok (.ldc 58, 2) := by decide +kernel
theorem dX8_sitter_20 : decode cX8_sitter 20 = .ok (.ireturn, 1) := by decide +kernel
theorem dX8_told_0 : decode cX8_told 0 = .ok (.aload_n 0, 1) := by decide +kernel
theorem dX8_told_1 : decode cX8_told 1 = .ok (.iload_n 1, 1) := by decide +kernel
theorem dX8_told_2 : decode cX8_told 2 = .ok (.invokevirtual 71, 3) := by decide +kernel
theorem dX8_told_5 : decode cX8_told 5 = .ok (.ifCond .ne 6, 3) := by decide +kernel
theorem dX8_told_8 : decode cX8_told 8 = .ok (.ldc 58, 2) := by decide +kernel
theorem dX8_told_10 : decode cX8_told 10 = .ok (.ireturn, 1) := by decide +kernel
theorem dX8_told_11 : decode cX8_told 11 = .ok (.aload_n 0, 1) := by decide +kernel
theorem dX8_told_12 : decode cX8_told 12 = .ok (.getfield 10, 3) := by decide +kernel
theorem dX8_told_15 : decode cX8_told 15 = .ok (.getfield 74, 3) := by decide +kernel
theorem dX8_told_18 : decode cX8_told 18 = .ok (.iload_n 1, 1) := by decide +kernel
theorem dX8_told_19 : decode cX8_told 19 = .ok (.aaload, 1) := by decide +kernel
theorem dX8_told_20 : decode cX8_told 20 = .ok (.astore_n 3, 1) := by decide +kernel
theorem dX8_told_21 : decode cX8_told 21 = .ok (.iload_n 2, 1) := by decide +kernel
theorem dX8_told_22 : decode cX8_told 22 = .ok (.tableswitch 85 0 6 #[42, 47, 52, 57, 62, 71, 80], 42) := by decide +kernel
theorem dX8_told_64 : decode cX8_told 64 = .ok (.aload_n 3, 1) := by decide +kernel
theorem dX8_told_65 : decode cX8_told 65 = .ok (.getfield 78, 3) := by decide +kernel
theorem dX8_told_68 : decode cX8_told 68 = .ok (.ireturn, 1) := by decide +kernel
theorem dX8_told_69 : decode cX8_told 69 = .ok (.aload_n 3, 1) := by decide +kernel
theorem dX8_told_70 : decode cX8_told 70 = .ok (.getfield 84, 3) := by decide +kernel
theorem dX8_told_73 : decode cX8_told 73 = .ok (.ireturn, 1) := by decide +kernel
theorem dX8_told_74 : decode cX8_told 74 = .ok (.aload_n 3, 1) := by decide +kernel
theorem dX8_told_75 : decode cX8_told 75 = .ok (.getfield 87, 3) := by decide +kernel
theorem dX8_told_78 : decode cX8_told 78 = .ok (.ireturn, 1) := by decide +kernel
theorem dX8_told_79 : decode cX8_told 79 = .ok (.aload_n 3, 1) := by decide +kernel
theorem dX8_told_80 : decode cX8_told 80 = .ok (.getfield 90, 3) := by decide +kernel
theorem dX8_told_83 : decode cX8_told 83 = .ok (.ireturn, 1) := by decide +kernel
theorem dX8_told_84 : decode cX8_told 84 = .ok (.aload_n 0, 1) := by decide +kernel
theorem dX8_told_85 : decode cX8_told 85 = .ok (.getfield 10, 3) := by decide +kernel
theorem dX8_told_88 : decode cX8_told 88 = .ok (.aload_n 3, 1) := by decide +kernel
theorem dX8_told_89 : decode cX8_told 89 = .ok (.invokevirtual 93, 3) := by decide +kernel
theorem dX8_told_92 : decode cX8_told 92 = .ok (.ireturn, 1) := by decide +kernel
theorem dX8_told_93 : decode cX8_told 93 = .ok (.aload_n 0, 1) := by decide +kernel
theorem dX8_told_94 : decode cX8_told 94 = .ok (.getfield 10, 3) := by decide +kernel
theorem dX8_told_97 : decode cX8_told 97 = .ok (.aload_n 3, 1) := by decide +kernel
theorem dX8_told_98 : decode cX8_told 98 = .ok (.invokevirtual 97, 3) := by decide +kernel
theorem dX8_told_101 : decode cX8_told 101 = .ok (.ireturn, 1) := by decide +kernel
theorem dX8_told_102 : decode cX8_told 102 = .ok (.aload_n 3, 1) := by decide +kernel
theorem dX8_told_103 : decode cX8_told 103 = .ok (.invokevirtual 100, 3) := by decide +kernel
theorem dX8_told_106 : decode cX8_told 106 = .ok (.ireturn, 1) := by decide +kernel
theorem dX8_told_107 : decode cX8_told 107 = .ok (.ldc 58, 2) := by decide +kernel
theorem dX8_told_109 : decode cX8_told 109 = .ok (.ireturn, 1) := by decide +kernel
theorem dX8_as_0 : decode cX8_as 0 = .ok (.aload_n 0, 1) := by decide +kernel
theorem dX8_as_1 : decode cX8_as 1 = .ok (.iload_n 1, 1) := by decide +kernel
theorem dX8_as_2 : decode cX8_as 2 = .ok (.invokevirtual 71, 3) := by decide +kernel
theorem dX8_as_5 : decode cX8_as 5 = .ok (.ifCond .eq 10, 3) := by decide +kernel
theorem dX8_as_8 : decode cX8_as 8 = .ok (.iload_n 2, 1) := by decide +kernel
theorem dX8_as_9 : decode cX8_as 9 = .ok (.invokestatic 63, 3) := by decide +kernel
theorem dX8_as_12 : decode cX8_as 12 = .ok (.ifCond .ne 6, 3) := by decide +kernel
theorem dX8_as_15 : decode cX8_as 15 = .ok (.ldc 58, 2) := by decide +kernel
theorem dX8_as_17 : decode cX8_as 17 = .ok (.ireturn, 1) := by decide +kernel
theorem dX8_as_18 : decode cX8_as 18 = .ok (.aload_n 0, 1) := by decide +kernel
theorem dX8_as_19 : decode cX8_as 19 = .ok (.getfield 10, 3) := by decide +kernel
theorem dX8_as_22 : decode cX8_as 22 = .ok (.getfield 74, 3) := by decide +kernel
theorem dX8_as_25 : decode cX8_as 25 = .ok (.iload_n 1, 1) := by decide +kernel
theorem dX8_as_26 : decode cX8_as 26 = .ok (.aaload, 1) := by decide +kernel
theorem dX8_as_27 : decode cX8_as 27 = .ok (.astore_n 3, 1) := by decide +kernel
theorem dX8_as_28 : decode cX8_as 28 = .ok (.aload_n 3, 1) := by decide +kernel
theorem dX8_as_29 : decode cX8_as 29 = .ok (.iload_n 2, 1) := by decide +kernel
theorem dX8_as_30 : decode cX8_as 30 = .ok (.invokevirtual 104, 3) := by decide +kernel
theorem dX8_as_33 : decode cX8_as 33 = .ok (.ifCond .eq 10, 3) := by decide +kernel
theorem dX8_as_36 : decode cX8_as 36 = .ok (.aload_n 3, 1) := by decide +kernel
theorem dX8_as_37 : decode cX8_as 37 = .ok (.getfield 90, 3) := by decide +kernel
theorem dX8_as_40 : decode cX8_as 40 = .ok (.goto 5, 3) := by decide +kernel
theorem dX8_as_43 : decode cX8_as 43 = .ok (.ldc 107, 2) := by decide +kernel
theorem dX8_as_45 : decode cX8_as 45 = .ok (.ireturn, 1) := by decide +kernel
theorem dX8_turns_0 : decode cX8_turns 0 = .ok (.aload_n 0, 1) := by decide +kernel
theorem dX8_turns_1 : decode cX8_turns 1 = .ok (.iload_n 1, 1) := by decide +kernel
theorem dX8_turns_2 : decode cX8_turns 2 = .ok (.invokevirtual 71, 3) := by decide +kernel
theorem dX8_turns_5 : decode cX8_turns 5 = .ok (.ifCond .eq 10, 3) := by decide +kernel
theorem dX8_turns_8 : decode cX8_turns 8 = .ok (.iload_n 2, 1) := by decide +kernel
theorem dX8_turns_9 : decode cX8_turns 9 = .ok (.invokestatic 63, 3) := by decide +kernel
theorem dX8_turns_12 : decode cX8_turns 12 = .ok (.ifCond .ne 6, 3) := by decide +kernel
theorem dX8_turns_15 : decode cX8_turns 15 = .ok (.ldc 58, 2) := by decide +kernel
theorem dX8_turns_17 : decode cX8_turns 17 = .ok (.ireturn, 1) := by decide +kernel
theorem dX8_turns_18 : decode cX8_turns 18 = .ok (.aload_n 0, 1) := by decide +kernel
theorem dX8_turns_19 : decode cX8_turns 19 = .ok (.getfield 10, 3) := by decide +kernel
theorem dX8_turns_22 : decode cX8_turns 22 = .ok (.getfield 74, 3) := by decide +kernel
theorem dX8_turns_25 : decode cX8_turns 25 = .ok (.iload_n 1, 1) := by decide +kernel
theorem dX8_turns_26 : decode cX8_turns 26 = .ok (.aaload, 1) := by decide +kernel
theorem dX8_turns_27 : decode cX8_turns 27 = .ok (.astore_n 3, 1) := by decide +kernel
theorem dX8_turns_28 : decode cX8_turns 28 = .ok (.aload_n 3, 1) := by decide +kernel
theorem dX8_turns_29 : decode cX8_turns 29 = .ok (.invokevirtual 108, 3) := by decide +kernel
theorem dX8_turns_32 : decode cX8_turns 32 = .ok (.ifCond .eq 6, 3) := by decide +kernel
theorem dX8_turns_35 : decode cX8_turns 35 = .ok (.ldc 112, 2) := by decide +kernel
theorem dX8_turns_37 : decode cX8_turns 37 = .ok (.ireturn, 1) := by decide +kernel
theorem dX8_turns_38 : decode cX8_turns 38 = .ok (.aload_n 3, 1) := by decide +kernel
theorem dX8_turns_39 : decode cX8_turns 39 = .ok (.getfield 78, 3) := by decide +kernel
theorem dX8_turns_42 : decode cX8_turns 42 = .ok (.istore 4, 2) := by decide +kernel
theorem dX8_turns_44 : decode cX8_turns 44 = .ok (.aload_n 3, 1) := by decide +kernel
theorem dX8_turns_45 : decode cX8_turns 45 = .ok (.iload_n 2, 1) := by decide +kernel
theorem dX8_turns_46 : decode cX8_turns 46 = .ok (.putfield 78, 3) := by decide +kernel
theorem dX8_turns_49 : decode cX8_turns 49 = .ok (.iload 4, 2) := by decide +kernel
theorem dX8_turns_51 : decode cX8_turns 51 = .ok (.ireturn, 1) := by decide +kernel
theorem dX8_sits_0 : decode cX8_sits 0 = .ok (.aload_n 0, 1) := by decide +kernel
theorem dX8_sits_1 : decode cX8_sits 1 = .ok (.iload_n 1, 1) := by decide +kernel
theorem dX8_sits_2 : decode cX8_sits 2 = .ok (.invokevirtual 71, 3) := by decide +kernel
theorem dX8_sits_5 : decode cX8_sits 5 = .ok (.ifCond .eq 11, 3) := by decide +kernel
theorem dX8_sits_8 : decode cX8_sits 8 = .ok (.aload_n 0, 1) := by decide +kernel
theorem dX8_sits_9 : decode cX8_sits 9 = .ok (.iload_n 2, 1) := by decide +kernel
theorem dX8_sits_10 : decode cX8_sits 10 = .ok (.invokevirtual 113, 3) := by decide +kernel
theorem dX8_sits_13 : decode cX8_sits 13 = .ok (.ifCond .ne 6, 3) := by decide +kernel
theorem dX8_sits_16 : decode cX8_sits 16 = .ok (.ldc 58, 2) := by decide +kernel
theorem dX8_sits_18 : decode cX8_sits 18 = .ok (.ireturn, 1) := by decide +kernel
theorem dX8_sits_19 : decode cX8_sits 19 = .ok (.aload_n 0, 1) := by decide +kernel
theorem dX8_sits_20 : decode cX8_sits 20 = .ok (.getfield 10, 3) := by decide +kernel
theorem dX8_sits_23 : decode cX8_sits 23 = .ok (.getfield 74, 3) := by decide +kernel
theorem dX8_sits_26 : decode cX8_sits 26 = .ok (.iload_n 1, 1) := by decide +kernel
theorem dX8_sits_27 : decode cX8_sits 27 = .ok (.aaload, 1) := by decide +kernel
theorem dX8_sits_28 : decode cX8_sits 28 = .ok (.astore_n 3, 1) := by decide +kernel
theorem dX8_sits_29 : decode cX8_sits 29 = .ok (.aload_n 0, 1) := by decide +kernel
theorem dX8_sits_30 : decode cX8_sits 30 = .ok (.getfield 10, 3) := by decide +kernel
theorem dX8_sits_33 : decode cX8_sits 33 = .ok (.aload_n 3, 1) := by decide +kernel
theorem dX8_sits_34 : decode cX8_sits 34 = .ok (.invokevirtual 97, 3) := by decide +kernel
theorem dX8_sits_37 : decode cX8_sits 37 = .ok (.iload_n 2, 1) := by decide +kernel
theorem dX8_sits_38 : decode cX8_sits 38 = .ok (.invokestatic 116, 3) := by decide +kernel
theorem dX8_sits_41 : decode cX8_sits 41 = .ok (.ifCond .eq 15, 3) := by decide +kernel
theorem dX8_sits_44 : decode cX8_sits 44 = .ok (.aload_n 0, 1) := by decide +kernel
theorem dX8_sits_45 : decode cX8_sits 45 = .ok (.getfield 10, 3) := by decide +kernel
theorem dX8_sits_48 : decode cX8_sits 48 = .ok (.aload_n 3, 1) := by decide +kernel
theorem dX8_sits_49 : decode cX8_sits 49 = .ok (.iload_n 2, 1) := by decide +kernel
theorem dX8_sits_50 : decode cX8_sits 50 = .ok (.invokevirtual 120, 3) := by decide +kernel
theorem dX8_sits_53 : decode cX8_sits 53 = .ok (.goto 5, 3) := by decide +kernel
theorem dX8_sits_56 : decode cX8_sits 56 = .ok (.ldc 112, 2) := by decide +kernel
theorem dX8_sits_58 : decode cX8_sits 58 = .ok (.ireturn, 1) := by decide +kernel
theorem dX8_rises_0 : decode cX8_rises 0 = .ok (.aload_n 0, 1) := by decide +kernel
theorem dX8_rises_1 : decode cX8_rises 1 = .ok (.iload_n 1, 1) := by decide +kernel
theorem dX8_rises_2 : decode cX8_rises 2 = .ok (.invokevirtual 71, 3) := by decide +kernel
theorem dX8_rises_5 : decode cX8_rises 5 = .ok (.ifCond .ne 6, 3) := by decide +kernel
theorem dX8_rises_8 : decode cX8_rises 8 = .ok (.ldc 58, 2) := by decide +kernel
theorem dX8_rises_10 : decode cX8_rises 10 = .ok (.ireturn, 1) := by decide +kernel
theorem dX8_rises_11 : decode cX8_rises 11 = .ok (.aload_n 0, 1) := by decide +kernel
theorem dX8_rises_12 : decode cX8_rises 12 = .ok (.getfield 10, 3) := by decide +kernel
theorem dX8_rises_15 : decode cX8_rises 15 = .ok (.getfield 74, 3) := by decide +kernel
theorem dX8_rises_18 : decode cX8_rises 18 = .ok (.iload_n 1, 1) := by decide +kernel
theorem dX8_rises_19 : decode cX8_rises 19 = .ok (.aaload, 1) := by decide +kernel
theorem dX8_rises_20 : decode cX8_rises 20 = .ok (.astore_n 2, 1) := by decide +kernel
theorem dX8_rises_21 : decode cX8_rises 21 = .ok (.aload_n 2, 1) := by decide +kernel
theorem dX8_rises_22 : decode cX8_rises 22 = .ok (.invokevirtual 108, 3) := by decide +kernel
theorem dX8_rises_25 : decode cX8_rises 25 = .ok (.ifCond .ne 6, 3) := by decide +kernel
theorem dX8_rises_28 : decode cX8_rises 28 = .ok (.ldc 112, 2) := by decide +kernel
theorem dX8_rises_30 : decode cX8_rises 30 = .ok (.ireturn, 1) := by decide +kernel
theorem dX8_rises_31 : decode cX8_rises 31 = .ok (.aload_n 2, 1) := by decide +kernel
theorem dX8_rises_32 : decode cX8_rises 32 = .ok (.getfield 84, 3) := by decide +kernel
theorem dX8_rises_35 : decode cX8_rises 35 = .ok (.istore_n 3, 1) := by decide +kernel
theorem dX8_rises_36 : decode cX8_rises 36 = .ok (.aload_n 2, 1) := by decide +kernel
theorem dX8_rises_37 : decode cX8_rises 37 = .ok (.iconst (-1), 1) := by decide +kernel
theorem dX8_rises_38 : decode cX8_rises 38 = .ok (.putfield 84, 3) := by decide +kernel
theorem dX8_rises_41 : decode cX8_rises 41 = .ok (.iload_n 3, 1) := by decide +kernel
theorem dX8_rises_42 : decode cX8_rises 42 = .ok (.ireturn, 1) := by decide +kernel
theorem dX8_who_0 : decode cX8_who 0 = .ok (.aload_n 0, 1) := by decide +kernel
theorem dX8_who_1 : decode cX8_who 1 = .ok (.iload_n 1, 1) := by decide +kernel
theorem dX8_who_2 : decode cX8_who 2 = .ok (.invokevirtual 113, 3) := by decide +kernel
theorem dX8_who_5 : decode cX8_who 5 = .ok (.ifCond .ne 6, 3) := by decide +kernel
theorem dX8_who_8 : decode cX8_who 8 = .ok (.ldc 58, 2) := by decide +kernel
theorem dX8_who_10 : decode cX8_who 10 = .ok (.ireturn, 1) := by decide +kernel
theorem dX8_who_11 : decode cX8_who 11 = .ok (.iconst 0, 1) := by decide +kernel
theorem dX8_who_12 : decode cX8_who 12 = .ok (.istore_n 2, 1) := by decide +kernel
theorem dX8_who_13 : decode cX8_who 13 = .ok (.iload_n 2, 1) := by decide +kernel
theorem dX8_who_14 : decode cX8_who 14 = .ok (.aload_n 0, 1) := by decide +kernel
theorem dX8_who_15 : decode cX8_who 15 = .ok (.getfield 10, 3) := by decide +kernel
theorem dX8_who_18 : decode cX8_who 18 = .ok (.getfield 124, 3) := by decide +kernel
theorem dX8_who_21 : decode cX8_who 21 = .ok (.if_icmp .ge 34, 3) := by decide +kernel
theorem dX8_who_24 : decode cX8_who 24 = .ok (.aload_n 0, 1) := by decide +kernel
theorem dX8_who_25 : decode cX8_who 25 = .ok (.getfield 10, 3) := by decide +kernel
theorem dX8_who_28 : decode cX8_who 28 = .ok (.aload_n 0, 1) := by decide +kernel
theorem dX8_who_29 : decode cX8_who 29 = .ok (.getfield 10, 3) := by decide +kernel
theorem dX8_who_32 : decode cX8_who 32 = .ok (.getfield 74, 3) := by decide +kernel
theorem dX8_who_35 : decode cX8_who 35 = .ok (.iload_n 2, 1) := by decide +kernel
theorem dX8_who_36 : decode cX8_who 36 = .ok (.aaload, 1) := by decide +kernel
theorem dX8_who_37 : decode cX8_who 37 = .ok (.invokevirtual 93, 3) := by decide +kernel
theorem dX8_who_40 : decode cX8_who 40 = .ok (.iload_n 1, 1) := by decide +kernel
theorem dX8_who_41 : decode cX8_who 41 = .ok (.invokestatic 116, 3) := by decide +kernel
theorem dX8_who_44 : decode cX8_who 44 = .ok (.ifCond .eq 5, 3) := by decide +kernel
theorem dX8_who_47 : decode cX8_who 47 = .ok (.iload_n 2, 1) := by decide +kernel
theorem dX8_who_48 : decode cX8_who 48 = .ok (.ireturn, 1) := by decide +kernel
theorem dX8_who_49 : decode cX8_who 49 = .ok (.iinc 2 1, 3) := by decide +kernel
theorem dX8_who_52 : decode cX8_who 52 = .ok (.goto (-39), 3) := by decide +kernel
theorem dX8_who_55 : decode cX8_who 55 = .ok (.ldc 127, 2) := by decide +kernel
theorem dX8_who_57 : decode cX8_who 57 = .ok (.ireturn, 1) := by decide +kernel
theorem dX8_cushion_0 : decode cX8_cushion 0 = .ok (.aload_n 0, 1) := by decide +kernel
theorem dX8_cushion_1 : decode cX8_cushion 1 = .ok (.iload_n 1, 1) := by decide +kernel
theorem dX8_cushion_2 : decode cX8_cushion 2 = .ok (.invokevirtual 113, 3) := by decide +kernel
theorem dX8_cushion_5 : decode cX8_cushion 5 = .ok (.ifCond .eq 13, 3) := by decide +kernel
theorem dX8_cushion_8 : decode cX8_cushion 8 = .ok (.iload_n 2, 1) := by decide +kernel
theorem dX8_cushion_9 : decode cX8_cushion 9 = .ok (.iconst 0, 1) := by decide +kernel
theorem dX8_cushion_10 : decode cX8_cushion 10 = .ok (.bipush 99, 2) := by decide +kernel
theorem dX8_cushion_12 : decode cX8_cushion 12 = .ok (.invokestatic 54, 3) := by decide +kernel
theorem dX8_cushion_15 : decode cX8_cushion 15 = .ok (.ifCond .ne 6, 3) := by decide +kernel
theorem dX8_cushion_18 : decode cX8_cushion 18 = .ok (.ldc 58, 2) := by decide +kernel
theorem dX8_cushion_20 : decode cX8_cushion 20 = .ok (.ireturn, 1) := by decide +kernel
theorem dX8_cushion_21 : decode cX8_cushion 21 = .ok (.aload_n 0, 1) := by decide +kernel
theorem dX8_cushion_22 : decode cX8_cushion 22 = .ok (.getfield 10, 3) := by decide +kernel
theorem dX8_cushion_25 : decode cX8_cushion 25 = .ok (.getfield 128, 3) := by decide +kernel
theorem dX8_cushion_28 : decode cX8_cushion 28 = .ok (.iload_n 1, 1) := by decide +kernel
theorem dX8_cushion_29 : decode cX8_cushion 29 = .ok (.iaload, 1) := by decide +kernel
theorem dX8_cushion_30 : decode cX8_cushion 30 = .ok (.istore_n 3, 1) := by decide +kernel
theorem dX8_cushion_31 : decode cX8_cushion 31 = .ok (.aload_n 0, 1) := by decide +kernel
theorem dX8_cushion_32 : decode cX8_cushion 32 = .ok (.getfield 10, 3) := by decide +kernel
theorem dX8_cushion_35 : decode cX8_cushion 35 = .ok (.getfield 128, 3) := by decide +kernel
theorem dX8_cushion_38 : decode cX8_cushion 38 = .ok (.iload_n 1, 1) := by decide +kernel
theorem dX8_cushion_39 : decode cX8_cushion 39 = .ok (.iload_n 2, 1) := by decide +kernel
theorem dX8_cushion_40 : decode cX8_cushion 40 = .ok (.iastore, 1) := by decide +kernel
theorem dX8_cushion_41 : decode cX8_cushion 41 = .ok (.iload_n 3, 1) := by decide +kernel
theorem dX8_cushion_42 : decode cX8_cushion 42 = .ok (.ireturn, 1) := by decide +kernel
theorem dX8_rule_0 : decode cX8_rule 0 = .ok (.iload_n 1, 1) := by decide +kernel
theorem dX8_rule_1 : decode cX8_rule 1 = .ok (.iconst 0, 1) := by decide +kernel
theorem dX8_rule_2 : decode cX8_rule 2 = .ok (.iconst 3, 1) := by decide +kernel
theorem dX8_rule_3 : decode cX8_rule 3 = .ok (.invokestatic 54, 3) := by decide +kernel
theorem dX8_rule_6 : decode cX8_rule 6 = .ok (.ifCond .eq 16, 3) := by decide +kernel
theorem dX8_rule_9 : decode cX8_rule 9 = .ok (.iload_n 2, 1) := by decide +kernel
theorem dX8_rule_10 : decode cX8_rule 10 = .ok (.iconst 0, 1) := by decide +kernel
theorem dX8_rule_11 : decode cX8_rule 11 = .ok (.getstatic 131, 3) := by decide +kernel
theorem dX8_rule_14 : decode cX8_rule 14 = .ok (.iload_n 1, 1) := by decide +kernel
theorem dX8_rule_15 : decode cX8_rule 15 = .ok (.iaload, 1) := by decide +kernel
theorem dX8_rule_16 : decode cX8_rule 16 = .ok (.invokestatic 54, 3) := by decide +kernel
theorem dX8_rule_19 : decode cX8_rule 19 = .ok (.ifCond .ne 6, 3) := by decide +kernel
theorem dX8_rule_22 : decode cX8_rule 22 = .ok (.ldc 58, 2) := by decide +kernel
theorem dX8_rule_24 : decode cX8_rule 24 = .ok (.ireturn, 1) := by decide +kernel
theorem dX8_rule_25 : decode cX8_rule 25 = .ok (.aload_n 0, 1) := by decide +kernel
theorem dX8_rule_26 : decode cX8_rule 26 = .ok (.getfield 10, 3) := by decide +kernel
theorem dX8_rule_29 : decode cX8_rule 29 = .ok (.getfield 134, 3) := by decide +kernel
theorem dX8_rule_32 : decode cX8_rule 32 = .ok (.iload_n 1, 1) := by decide +kernel
theorem dX8_rule_33 : decode cX8_rule 33 = .ok (.iaload, 1) := by decide +kernel
theorem dX8_rule_34 : decode cX8_rule 34 = .ok (.istore_n 3, 1) := by decide +kernel
theorem dX8_rule_35 : decode cX8_rule 35 = .ok (.aload_n 0, 1) := by decide +kernel
theorem dX8_rule_36 : decode cX8_rule 36 = .ok (.getfield 10, 3) := by decide +kernel
theorem dX8_rule_39 : decode cX8_rule 39 = .ok (.getfield 134, 3) := by decide +kernel
theorem dX8_rule_42 : decode cX8_rule 42 = .ok (.iload_n 1, 1) := by decide +kernel
theorem dX8_rule_43 : decode cX8_rule 43 = .ok (.iload_n 2, 1) := by decide +kernel
theorem dX8_rule_44 : decode cX8_rule 44 = .ok (.iastore, 1) := by decide +kernel
theorem dX8_rule_45 : decode cX8_rule 45 = .ok (.iload_n 3, 1) := by decide +kernel
theorem dX8_rule_46 : decode cX8_rule 46 = .ok (.ireturn, 1) := by decide +kernel
theorem dX8_deal_0 : decode cX8_deal 0 = .ok (.iload_n 1, 1) := by decide +kernel
theorem dX8_deal_1 : decode cX8_deal 1 = .ok (.iconst 1, 1) := by decide +kernel
theorem dX8_deal_2 : decode cX8_deal 2 = .ok (.bipush 12, 2) := by decide +kernel
theorem dX8_deal_4 : decode cX8_deal 4 = .ok (.invokestatic 54, 3) := by decide +kernel
theorem dX8_deal_7 : decode cX8_deal 7 = .ok (.ifCond .ne 6, 3) := by decide +kernel
theorem dX8_deal_10 : decode cX8_deal 10 = .ok (.ldc 58, 2) := by decide +kernel
theorem dX8_deal_12 : decode cX8_deal 12 = .ok (.ireturn, 1) := by decide +kernel
theorem dX8_deal_13 : decode cX8_deal 13 = .ok (.iload_n 1, 1) := by decide +kernel
theorem dX8_deal_14 : decode cX8_deal 14 = .ok (.bipush 12, 2) := by decide +kernel
theorem dX8_deal_16 : decode cX8_deal 16 = .ok (.aload_n 0, 1) := by decide +kernel
theorem dX8_deal_17 : decode cX8_deal 17 = .ok (.getfield 10, 3) := by decide +kernel
theorem dX8_deal_20 : decode cX8_deal 20 = .ok (.getfield 124, 3) := by decide +kernel
theorem dX8_deal_23 : decode cX8_deal 23 = .ok (.isub, 1) := by decide +kernel
theorem dX8_deal_24 : decode cX8_deal 24 = .ok (.invokestatic 137, 3) := by decide +kernel
theorem dX8_deal_27 : decode cX8_deal 27 = .ok (.istore_n 2, 1) := by decide +kernel
theorem dX8_deal_28 : decode cX8_deal 28 = .ok (.iconst 0, 1) := by decide +kernel
theorem dX8_deal_29 : decode cX8_deal 29 = .ok (.istore_n 3, 1) := by decide +kernel
theorem dX8_deal_30 : decode cX8_deal 30 = .ok (.iload_n 3, 1) := by decide +kernel
theorem dX8_deal_31 : decode cX8_deal 31 = .ok (.iload_n 2, 1) := by decide +kernel
theorem dX8_deal_32 : decode cX8_deal 32 = .ok (.if_icmp .ge 27, 3) := by decide +kernel
theorem dX8_deal_35 : decode cX8_deal 35 = .ok (.aload_n 0, 1) := by decide +kernel
theorem dX8_deal_36 : decode cX8_deal 36 = .ok (.getfield 10, 3) := by decide +kernel
theorem dX8_deal_39 : decode cX8_deal 39 = .ok (.aload_n 0, 1) := by decide +kernel
theorem dX8_deal_40 : decode cX8_deal 40 = .ok (.getfield 10, 3) := by decide +kernel
theorem dX8_deal_43 : decode cX8_deal 43 = .ok (.invokevirtual 143, 3) := by decide +kernel
theorem dX8_deal_46 : decode cX8_deal 46 = .ok (.bipush 6, 2) := by decide +kernel
theorem dX8_deal_48 : decode cX8_deal 48 = .ok (.irem, 1) := by decide +kernel
theorem dX8_deal_49 : decode cX8_deal 49 = .ok (.invokevirtual 67, 3) := by decide +kernel
theorem dX8_deal_52 : decode cX8_deal 52 = .ok (.pop, 1) := by decide +kernel
theorem dX8_deal_53 : decode cX8_deal 53 = .ok (.iinc 3 1, 3) := by decide +kernel
theorem dX8_deal_56 : decode cX8_deal 56 = .ok (.goto (-26), 3) := by decide +kernel
theorem dX8_deal_59 : decode cX8_deal 59 = .ok (.iload_n 2, 1) := by decide +kernel
theorem dX8_deal_60 : decode cX8_deal 60 = .ok (.ireturn, 1) := by decide +kernel
theorem dX8_seed_0 : decode cX8_seed 0 = .ok (.aload_n 0, 1) := by decide +kernel
theorem dX8_seed_1 : decode cX8_seed 1 = .ok (.getfield 10, 3) := by decide +kernel
theorem dX8_seed_4 : decode cX8_seed 4 = .ok (.getfield 146, 3) := by decide +kernel
theorem dX8_seed_7 : decode cX8_seed 7 = .ok (.istore_n 2, 1) := by decide +kernel
theorem dX8_seed_8 : decode cX8_seed 8 = .ok (.aload_n 0, 1) := by decide +kernel
theorem dX8_seed_9 : decode cX8_seed 9 = .ok (.getfield 10, 3) := by decide +kernel
theorem dX8_seed_12 : decode cX8_seed 12 = .ok (.iload_n 1, 1) := by decide +kernel
theorem dX8_seed_13 : decode cX8_seed 13 = .ok (.putfield 146, 3) := by decide +kernel
theorem dX8_seed_16 : decode cX8_seed 16 = .ok (.iload_n 2, 1) := by decide +kernel
theorem dX8_seed_17 : decode cX8_seed 17 = .ok (.ireturn, 1) := by decide +kernel
theorem dX8_minutes_0 : decode cX8_minutes 0 = .ok (.iload_n 1, 1) := by decide +kernel
theorem dX8_minutes_1 : decode cX8_minutes 1 = .ok (.iconst 1, 1) := by decide +kernel
theorem dX8_minutes_2 : decode cX8_minutes 2 = .ok (.bipush 100, 2) := by decide +kernel
theorem dX8_minutes_4 : decode cX8_minutes 4 = .ok (.invokestatic 54, 3) := by decide +kernel
theorem dX8_minutes_7 : decode cX8_minutes 7 = .ok (.ifCond .ne 6, 3) := by decide +kernel
theorem dX8_minutes_10 : decode cX8_minutes 10 = .ok (.ldc 58, 2) := by decide +kernel
theorem dX8_minutes_12 : decode cX8_minutes 12 = .ok (.ireturn, 1) := by decide +kernel
theorem dX8_minutes_13 : decode cX8_minutes 13 = .ok (.aload_n 0, 1) := by decide +kernel
theorem dX8_minutes_14 : decode cX8_minutes 14 = .ok (.getfield 10, 3) := by decide +kernel
theorem dX8_minutes_17 : decode cX8_minutes 17 = .ok (.iload_n 1, 1) := by decide +kernel
theorem dX8_minutes_18 : decode cX8_minutes 18 = .ok (.sipush 9999, 3) := by decide +kernel
theorem dX8_minutes_21 : decode cX8_minutes 21 = .ok (.aload_n 0, 1) := by decide +kernel
theorem dX8_minutes_22 : decode cX8_minutes 22 = .ok (.getfield 10, 3) := by decide +kernel
theorem dX8_minutes_25 : decode cX8_minutes 25 = .ok (.getfield 149, 3) := by decide +kernel
theorem dX8_minutes_28 : decode cX8_minutes 28 = .ok (.isub, 1) := by decide +kernel
theorem dX8_minutes_29 : decode cX8_minutes 29 = .ok (.invokestatic 137, 3) := by decide +kernel
theorem dX8_minutes_32 : decode cX8_minutes 32 = .ok (.invokevirtual 152, 3) := by decide +kernel
theorem dX8_minutes_35 : decode cX8_minutes 35 = .ok (.ireturn, 1) := by decide +kernel
theorem dX8_inn_0 : decode cX8_inn 0 = .ok (.iload_n 1, 1) := by decide +kernel
theorem dX8_inn_1 : decode cX8_inn 1 = .ok (.tableswitch 63 0 3 #[31, 39, 47, 55], 31) := by decide +kernel
theorem dX8_inn_32 : decode cX8_inn 32 = .ok (.aload_n 0, 1) := by decide +kernel
theorem dX8_inn_33 : decode cX8_inn 33 = .ok (.getfield 10, 3) := by decide +kernel
theorem dX8_inn_36 : decode cX8_inn 36 = .ok (.invokevirtual 155, 3) := by decide +kernel
theorem dX8_inn_39 : decode cX8_inn 39 = .ok (.ireturn, 1) := by decide +kernel
theorem dX8_inn_40 : decode cX8_inn 40 = .ok (.aload_n 0, 1) := by decide +kernel
theorem dX8_inn_41 : decode cX8_inn 41 = .ok (.getfield 10, 3) := by decide +kernel
theorem dX8_inn_44 : decode cX8_inn 44 = .ok (.getfield 158, 3) := by decide +kernel
theorem dX8_inn_47 : decode cX8_inn 47 = .ok (.ireturn, 1) := by decide +kernel
theorem dX8_inn_48 : decode cX8_inn 48 = .ok (.aload_n 0, 1) := by decide +kernel
theorem dX8_inn_49 : decode cX8_inn 49 = .ok (.getfield 10, 3) := by decide +kernel
theorem dX8_inn_52 : decode cX8_inn 52 = .ok (.invokevirtual 161, 3) := by decide +kernel
theorem dX8_inn_55 : decode cX8_inn 55 = .ok (.ireturn, 1) := by decide +kernel
theorem dX8_inn_56 : decode cX8_inn 56 = .ok (.aload_n 0, 1) := by decide +kernel
theorem dX8_inn_57 : decode cX8_inn 57 = .ok (.getfield 10, 3) := by decide +kernel
theorem dX8_inn_60 : decode cX8_inn 60 = .ok (.invokevirtual 164, 3) := by decide +kernel
theorem dX8_inn_63 : decode cX8_inn 63 = .ok (.ireturn, 1) := by decide +kernel
theorem dX8_inn_64 : decode cX8_inn 64 = .ok (.ldc 58, 2) := by decide +kernel
theorem dX8_inn_66 : decode cX8_inn 66 = .ok (.ireturn, 1) := by decide +kernel
theorem dX8_goes_0 : decode cX8_goes 0 = .ok (.iload_n 1, 1) := by decide +kernel
theorem dX8_goes_1 : decode cX8_goes 1 = .ok (.iconst 0, 1) := by decide +kernel
theorem dX8_goes_2 : decode cX8_goes 2 = .ok (.iconst 2, 1) := by decide +kernel
theorem dX8_goes_3 : decode cX8_goes 3 = .ok (.invokestatic 54, 3) := by decide +kernel
theorem dX8_goes_6 : decode cX8_goes 6 = .ok (.ifCond .ne 6, 3) := by decide +kernel
theorem dX8_goes_9 : decode cX8_goes 9 = .ok (.ldc 58, 2) := by decide +kernel
theorem dX8_goes_11 : decode cX8_goes 11 = .ok (.ireturn, 1) := by decide +kernel
theorem dX8_goes_12 : decode cX8_goes 12 = .ok (.aload_n 0, 1) := by decide +kernel
theorem dX8_goes_13 : decode cX8_goes 13 = .ok (.getfield 25, 3) := by decide +kernel
theorem dX8_goes_16 : decode cX8_goes 16 = .ok (.aload_n 0, 1) := by decide +kernel
theorem dX8_goes_17 : decode cX8_goes 17 = .ok (.getfield 10, 3) := by decide +kernel
theorem dX8_goes_20 : decode cX8_goes 20 = .ok (.getfield 167, 3) := by decide +kernel
theorem dX8_goes_23 : decode cX8_goes 23 = .ok (.aload_n 0, 1) := by decide +kernel
theorem dX8_goes_24 : decode cX8_goes 24 = .ok (.getfield 10, 3) := by decide +kernel
theorem dX8_goes_27 : decode cX8_goes 27 = .ok (.invokevirtual 155, 3) := by decide +kernel
theorem dX8_goes_30 : decode cX8_goes 30 = .ok (.iload_n 1, 1) := by decide +kernel
theorem dX8_goes_31 : decode cX8_goes 31 = .ok (.invokevirtual 171, 3) := by decide +kernel
theorem dX8_goes_34 : decode cX8_goes 34 = .ok (.ireturn, 1) := by decide +kernel
theorem dX8_game_0 : decode cX8_game 0 = .ok (.iload_n 1, 1) := by decide +kernel
theorem dX8_game_1 : decode cX8_game 1 = .ok (.iconst 0, 1) := by decide +kernel
theorem dX8_game_2 : decode cX8_game 2 = .ok (.iconst 1, 1) := by decide +kernel
theorem dX8_game_3 : decode cX8_game 3 = .ok (.invokestatic 54, 3) := by decide +kernel
theorem dX8_game_6 : decode cX8_game 6 = .ok (.ifCond .ne 6, 3) := by decide +kernel
theorem dX8_game_9 : decode cX8_game 9 = .ok (.ldc 58, 2) := by decide +kernel
theorem dX8_game_11 : decode cX8_game 11 = .ok (.ireturn, 1) := by decide +kernel
theorem dX8_game_12 : decode cX8_game 12 = .ok (.aload_n 0, 1) := by decide +kernel
theorem dX8_game_13 : decode cX8_game 13 = .ok (.getfield 10, 3) := by decide +kernel
theorem dX8_game_16 : decode cX8_game 16 = .ok (.invokevirtual 155, 3) := by decide +kernel
theorem dX8_game_19 : decode cX8_game 19 = .ok (.istore_n 2, 1) := by decide +kernel
theorem dX8_game_20 : decode cX8_game 20 = .ok (.aload_n 0, 1) := by decide +kernel
theorem dX8_game_21 : decode cX8_game 21 = .ok (.getfield 25, 3) := by decide +kernel
theorem dX8_game_24 : decode cX8_game 24 = .ok (.aload_n 0, 1) := by decide +kernel
theorem dX8_game_25 : decode cX8_game 25 = .ok (.getfield 10, 3) := by decide +kernel
theorem dX8_game_28 : decode cX8_game 28 = .ok (.getfield 167, 3) := by decide +kernel
theorem dX8_game_31 : decode cX8_game 31 = .ok (.iload_n 2, 1) := by decide +kernel
theorem dX8_game_32 : decode cX8_game 32 = .ok (.iconst 3, 1) := by decide +kernel
theorem dX8_game_33 : decode cX8_game 33 = .ok (.invokevirtual 171, 3) := by decide +kernel
theorem dX8_game_36 : decode cX8_game 36 = .ok (.istore_n 3, 1) := by decide +kernel
theorem dX8_game_37 : decode cX8_game 37 = .ok (.iload_n 1, 1) := by decide +kernel
theorem dX8_game_38 : decode cX8_game 38 = .ok (.ifCond .ne 7, 3) := by decide +kernel
theorem dX8_game_41 : decode cX8_game 41 = .ok (.iload_n 3, 1) := by decide +kernel
theorem dX8_game_42 : decode cX8_game 42 = .ok (.goto 18, 3) := by decide +kernel
theorem dX8_game_45 : decode cX8_game 45 = .ok (.aload_n 0, 1) := by decide +kernel
theorem dX8_game_46 : decode cX8_game 46 = .ok (.getfield 25, 3) := by decide +kernel
theorem dX8_game_49 : decode cX8_game 49 = .ok (.aload_n 0, 1) := by decide +kernel
theorem dX8_game_50 : decode cX8_game 50 = .ok (.getfield 10, 3) := by decide +kernel
theorem dX8_game_53 : decode cX8_game 53 = .ok (.getfield 167, 3) := by decide +kernel
theorem dX8_game_56 : decode cX8_game 56 = .ok (.iload_n 2, 1) := by decide +kernel
theorem dX8_game_57 : decode cX8_game 57 = .ok (.invokevirtual 175, 3) := by decide +kernel
theorem dX8_game_60 : decode cX8_game 60 = .ok (.ireturn, 1) := by decide +kernel
theorem dX8_worthy_0 : decode cX8_worthy 0 = .ok (.iload_n 1, 1) := by decide +kernel
theorem dX8_worthy_1 : decode cX8_worthy 1 = .ok (.iconst 0, 1) := by decide +kernel
theorem dX8_worthy_2 : decode cX8_worthy 2 = .ok (.iconst 1, 1) := by decide +kernel
theorem dX8_worthy_3 : decode cX8_worthy 3 = .ok (.invokestatic 54, 3) := by decide +kernel
theorem dX8_worthy_6 : decode cX8_worthy 6 = .ok (.ifCond .ne 6, 3) := by decide +kernel
theorem dX8_worthy_9 : decode cX8_worthy 9 = .ok (.ldc 58, 2) := by decide +kernel
theorem dX8_worthy_11 : decode cX8_worthy 11 = .ok (.ireturn, 1) := by decide +kernel
theorem dX8_worthy_12 : decode cX8_worthy 12 = .ok (.aload_n 0, 1) := by decide +kernel
theorem dX8_worthy_13 : decode cX8_worthy 13 = .ok (.getfield 10, 3) := by decide +kernel
theorem dX8_worthy_16 : decode cX8_worthy 16 = .ok (.invokevirtual 155, 3) := by decide +kernel
theorem dX8_worthy_19 : decode cX8_worthy 19 = .ok (.istore_n 2, 1) := by decide +kernel
theorem dX8_worthy_20 : decode cX8_worthy 20 = .ok (.iload_n 2, 1) := by decide +kernel
theorem dX8_worthy_21 : decode cX8_worthy 21 = .ok (.aload_n 0, 1) := by decide +kernel
theorem dX8_worthy_22 : decode cX8_worthy 22 = .ok (.getfield 10, 3) := by decide +kernel
theorem dX8_worthy_25 : decode cX8_worthy 25 = .ok (.getfield 167, 3) := by decide +kernel
theorem dX8_worthy_28 : decode cX8_worthy 28 = .ok (.getfield 179, 3) := by decide +kernel
theorem dX8_worthy_31 : decode cX8_worthy 31 = .ok (.if_icmp .ne 6, 3) := by decide +kernel
theorem dX8_worthy_34 : decode cX8_worthy 34 = .ok (.ldc 127, 2) := by decide +kernel
theorem dX8_worthy_36 : decode cX8_worthy 36 = .ok (.ireturn, 1) := by decide +kernel
theorem dX8_worthy_37 : decode cX8_worthy 37 = .ok (.aload_n 0, 1) := by decide +kernel
theorem dX8_worthy_38 : decode cX8_worthy 38 = .ok (.getfield 25, 3) := by decide +kernel
theorem dX8_worthy_41 : decode cX8_worthy 41 = .ok (.aload_n 0, 1) := by decide +kernel
theorem dX8_worthy_42 : decode cX8_worthy 42 = .ok (.getfield 10, 3) := by decide +kernel
theorem dX8_worthy_45 : decode cX8_worthy 45 = .ok (.iload_n 2, 1) := by decide +kernel
theorem dX8_worthy_46 : decode cX8_worthy 46 = .ok (.invokevirtual 184, 3) := by decide +kernel
theorem dX8_worthy_49 : decode cX8_worthy 49 = .ok (.iload_n 1, 1) := by decide +kernel
theorem dX8_worthy_50 : decode cX8_worthy 50 = .ok (.ifCond .ne 13, 3) := by decide +kernel
theorem dX8_worthy_53 : decode cX8_worthy 53 = .ok (.aload_n 0, 1) := by decide +kernel
theorem dX8_worthy_54 : decode cX8_worthy 54 = .ok (.getfield 25, 3) := by decide +kernel
theorem dX8_worthy_57 : decode cX8_worthy 57 = .ok (.getfield 188, 3) := by decide +kernel
theorem dX8_worthy_60 : decode cX8_worthy 60 = .ok (.goto 10, 3) := by decide +kernel
theorem dX8_worthy_63 : decode cX8_worthy 63 = .ok (.aload_n 0, 1) := by decide +kernel
theorem dX8_worthy_64 : decode cX8_worthy 64 = .ok (.getfield 25, 3) := by decide +kernel
theorem dX8_worthy_67 : decode cX8_worthy 67 = .ok (.getfield 191, 3) := by decide +kernel
theorem dX8_worthy_70 : decode cX8_worthy 70 = .ok (.ireturn, 1) := by decide +kernel
theorem dX8_behind_0 : decode cX8_behind 0 = .ok (.iload_n 1, 1) := by decide +kernel
theorem dX8_behind_1 : decode cX8_behind 1 = .ok (.iconst 0, 1) := by decide +kernel
theorem dX8_behind_2 : decode cX8_behind 2 = .ok (.bipush 100, 2) := by decide +kernel
theorem dX8_behind_4 : decode cX8_behind 4 = .ok (.invokestatic 54, 3) := by decide +kernel
theorem dX8_behind_7 : decode cX8_behind 7 = .ok (.ifCond .eq 20, 3) := by decide +kernel
theorem dX8_behind_10 : decode cX8_behind 10 = .ok (.iload_n 2, 1) := by decide +kernel
theorem dX8_behind_11 : decode cX8_behind 11 = .ok (.iconst 0, 1) := by decide +kernel
theorem dX8_behind_12 : decode cX8_behind 12 = .ok (.iconst 2, 1) := by decide +kernel
theorem dX8_behind_13 : decode cX8_behind 13 = .ok (.aload_n 0, 1) := by decide +kernel
theorem dX8_behind_14 : decode cX8_behind 14 = .ok (.getfield 10, 3) := by decide +kernel
theorem dX8_behind_17 : decode cX8_behind 17 = .ok (.getfield 124, 3) := by decide +kernel
theorem dX8_behind_20 : decode cX8_behind 20 = .ok (.iadd, 1) := by decide +kernel
theorem dX8_behind_21 : decode cX8_behind 21 = .ok (.invokestatic 54, 3) := by decide +kernel
theorem dX8_behind_24 : decode cX8_behind 24 = .ok (.ifCond .ne 6, 3) := by decide +kernel
theorem dX8_behind_27 : decode cX8_behind 27 = .ok (.ldc 58, 2) := by decide +kernel
theorem dX8_behind_29 : decode cX8_behind 29 = .ok (.ireturn, 1) := by decide +kernel
theorem dX8_behind_30 : decode cX8_behind 30 = .ok (.aload_n 0, 1) := by decide +kernel
theorem dX8_behind_31 : decode cX8_behind 31 = .ok (.getfield 19, 3) := by decide +kernel
theorem dX8_behind_34 : decode cX8_behind 34 = .ok (.aload_n 0, 1) := by decide +kernel
theorem dX8_behind_35 : decode cX8_behind 35 = .ok (.getfield 10, 3) := by decide +kernel
theorem dX8_behind_38 : decode cX8_behind 38 = .ok (.invokevirtual 194, 3) := by decide +kernel
theorem dX8_behind_41 : decode cX8_behind 41 = .ok (.aload_n 0, 1) := by decide +kernel
theorem dX8_behind_42 : decode cX8_behind 42 = .ok (.getfield 19, 3) := by decide +kernel
theorem dX8_behind_45 : decode cX8_behind 45 = .ok (.iload_n 1, 1) := by decide +kernel
theorem dX8_behind_46 : decode cX8_behind 46 = .ok (.invokevirtual 152, 3) := by decide +kernel
theorem dX8_behind_49 : decode cX8_behind 49 = .ok (.pop, 1) := by decide +kernel
theorem dX8_behind_50 : decode cX8_behind 50 = .ok (.iload_n 2, 1) := by decide +kernel
theorem dX8_behind_51 : decode cX8_behind 51 = .ok (.tableswitch 49 0 2 #[25, 33, 41], 25) := by decide +kernel
theorem dX8_behind_76 : decode cX8_behind 76 = .ok (.aload_n 0, 1) := by decide +kernel
theorem dX8_behind_77 : decode cX8_behind 77 = .ok (.getfield 19, 3) := by decide +kernel
theorem dX8_behind_80 : decode cX8_behind 80 = .ok (.invokevirtual 155, 3) := by decide +kernel
theorem dX8_behind_83 : decode cX8_behind 83 = .ok (.ireturn, 1) := by decide +kernel
theorem dX8_behind_84 : decode cX8_behind 84 = .ok (.aload_n 0, 1) := by decide +kernel
theorem dX8_behind_85 : decode cX8_behind 85 = .ok (.getfield 19, 3) := by decide +kernel
theorem dX8_behind_88 : decode cX8_behind 88 = .ok (.getfield 158, 3) := by decide +kernel
theorem dX8_behind_91 : decode cX8_behind 91 = .ok (.ireturn, 1) := by decide +kernel
theorem dX8_behind_92 : decode cX8_behind 92 = .ok (.aload_n 0, 1) := by decide +kernel
theorem dX8_behind_93 : decode cX8_behind 93 = .ok (.getfield 19, 3) := by decide +kernel
theorem dX8_behind_96 : decode cX8_behind 96 = .ok (.invokevirtual 161, 3) := by decide +kernel
theorem dX8_behind_99 : decode cX8_behind 99 = .ok (.ireturn, 1) := by decide +kernel
theorem dX8_behind_100 : decode cX8_behind 100 = .ok (.aload_n 0, 1) := by decide +kernel
theorem dX8_behind_101 : decode cX8_behind 101 = .ok (.getfield 19, 3) := by decide +kernel
theorem dX8_behind_104 : decode cX8_behind 104 = .ok (.getfield 74, 3) := by decide +kernel
theorem dX8_behind_107 : decode cX8_behind 107 = .ok (.iload_n 2, 1) := by decide +kernel
theorem dX8_behind_108 : decode cX8_behind 108 = .ok (.iconst 3, 1) := by decide +kernel
theorem dX8_behind_109 : decode cX8_behind 109 = .ok (.isub, 1) := by decide +kernel
theorem dX8_behind_110 : decode cX8_behind 110 = .ok (.aaload, 1) := by decide +kernel
theorem dX8_behind_111 : decode cX8_behind 111 = .ok (.getfield 84, 3) := by decide +kernel
theorem dX8_behind_114 : decode cX8_behind 114 = .ok (.ireturn, 1) := by decide +kernel
theorem dX8_fullUp_0 : decode cX8_fullUp 0 = .ok (.aload_n 0, 1) := by decide +kernel
theorem dX8_fullUp_1 : decode cX8_fullUp 1 = .ok (.getfield 19, 3) := by decide +kernel
theorem dX8_fullUp_4 : decode cX8_fullUp 4 = .ok (.aload_n 0, 1) := by decide +kernel
theorem dX8_fullUp_5 : decode cX8_fullUp 5 = .ok (.getfield 10, 3) := by decide +kernel
theorem dX8_fullUp_8 : decode cX8_fullUp 8 = .ok (.invokevirtual 194, 3) := by decide +kernel
theorem dX8_fullUp_11 : decode cX8_fullUp 11 = .ok (.iconst 0, 1) := by decide +kernel
theorem dX8_fullUp_12 : decode cX8_fullUp 12 = .ok (.istore_n 1, 1) := by decide +kernel
theorem dX8_fullUp_13 : decode cX8_fullUp 13 = .ok (.iload_n 1, 1) := by decide +kernel
theorem dX8_fullUp_14 : decode cX8_fullUp 14 = .ok (.sipush 200, 3) := by decide +kernel
theorem dX8_fullUp_17 : decode cX8_fullUp 17 = .ok (.if_icmp .gt 29, 3) := by decide +kernel
theorem dX8_fullUp_20 : decode cX8_fullUp 20 = .ok (.aload_n 0, 1) := by decide +kernel
theorem dX8_fullUp_21 : decode cX8_fullUp 21 = .ok (.getfield 19, 3) := by decide +kernel
theorem dX8_fullUp_24 : decode cX8_fullUp 24 = .ok (.invokevirtual 198, 3) := by decide +kernel
theorem dX8_fullUp_27 : decode cX8_fullUp 27 = .ok (.ifCond .eq 5, 3) := by decide +kernel
theorem dX8_fullUp_30 : decode cX8_fullUp 30 = .ok (.iload_n 1, 1) := by decide +kernel
theorem dX8_fullUp_31 : decode cX8_fullUp 31 = .ok (.ireturn, 1) := by decide +kernel
theorem dX8_fullUp_32 : decode cX8_fullUp 32 = .ok (.aload_n 0, 1) := by decide +kernel
theorem dX8_fullUp_33 : decode cX8_fullUp 33 = .ok (.getfield 19, 3) := by decide +kernel
theorem dX8_fullUp_36 : decode cX8_fullUp 36 = .ok (.invokevirtual 201, 3) := by decide +kernel
theorem dX8_fullUp_39 : decode cX8_fullUp 39 = .ok (.pop, 1) := by decide +kernel
theorem dX8_fullUp_40 : decode cX8_fullUp 40 = .ok (.iinc 1 1, 3) := by decide +kernel
theorem dX8_fullUp_43 : decode cX8_fullUp 43 = .ok (.goto (-30), 3) := by decide +kernel
theorem dX8_fullUp_46 : decode cX8_fullUp 46 = .ok (.ldc 127, 2) := by decide +kernel
theorem dX8_fullUp_48 : decode cX8_fullUp 48 = .ok (.ireturn, 1) := by decide +kernel
theorem dX8_rose_0 : decode cX8_rose 0 = .ok (.iload_n 1, 1) := by decide +kernel
theorem dX8_rose_1 : decode cX8_rose 1 = .ok (.iconst 1, 1) := by decide +kernel
theorem dX8_rose_2 : decode cX8_rose 2 = .ok (.bipush 60, 2) := by decide +kernel
theorem dX8_rose_4 : decode cX8_rose 4 = .ok (.invokestatic 54, 3) := by decide +kernel
theorem dX8_rose_7 : decode cX8_rose 7 = .ok (.ifCond .eq 12, 3) := by decide +kernel
theorem dX8_rose_10 : decode cX8_rose 10 = .ok (.iload_n 2, 1) := by decide +kernel
theorem dX8_rose_11 : decode cX8_rose 11 = .ok (.iconst 0, 1) := by decide +kernel
theorem dX8_rose_12 : decode cX8_rose 12 = .ok (.iconst 1, 1) := by decide +kernel
theorem dX8_rose_13 : decode cX8_rose 13 = .ok (.invokestatic 54, 3) := by decide +kernel
theorem dX8_rose_16 : decode cX8_rose 16 = .ok (.ifCond .ne 6, 3) := by decide +kernel
theorem dX8_rose_19 : decode cX8_rose 19 = .ok (.ldc 58, 2) := by decide +kernel
theorem dX8_rose_21 : decode cX8_rose 21 = .ok (.ireturn, 1) := by decide +kernel
theorem dX8_rose_22 : decode cX8_rose 22 = .ok (.ldc 127, 2) := by decide +kernel
theorem dX8_rose_24 : decode cX8_rose 24 = .ok (.istore_n 3, 1) := by decide +kernel
theorem dX8_rose_25 : decode cX8_rose 25 = .ok (.ldc 127, 2) := by decide +kernel
theorem dX8_rose_27 : decode cX8_rose 27 = .ok (.istore 4, 2) := by decide +kernel
theorem dX8_rose_29 : decode cX8_rose 29 = .ok (.iconst 0, 1) := by decide +kernel
theorem dX8_rose_30 : decode cX8_rose 30 = .ok (.istore 5, 2) := by decide +kernel
theorem dX8_rose_32 : decode cX8_rose 32 = .ok (.iload 5, 2) := by decide +kernel
theorem dX8_rose_34 : decode cX8_rose 34 = .ok (.aload_n 0, 1) := by decide +kernel
theorem dX8_rose_35 : decode cX8_rose 35 = .ok (.getfield 10, 3) := by decide +kernel
theorem dX8_rose_38 : decode cX8_rose 38 = .ok (.getfield 124, 3) := by decide +kernel
theorem dX8_rose_41 : decode cX8_rose 41 = .ok (.if_icmp .ge 89, 3) := by decide +kernel
theorem dX8_rose_44 : decode cX8_rose 44 = .ok (.aload_n 0, 1) := by decide +kernel
theorem dX8_rose_45 : decode cX8_rose 45 = .ok (.getfield 10, 3) := by decide +kernel
theorem dX8_rose_48 : decode cX8_rose 48 = .ok (.getfield 74, 3) := by decide +kernel
theorem dX8_rose_51 : decode cX8_rose 51 = .ok (.iload 5, 2) := by decide +kernel
theorem dX8_rose_53 : decode cX8_rose 53 = .ok (.aaload, 1) := by decide +kernel
theorem dX8_rose_54 : decode cX8_rose 54 = .ok (.invokevirtual 108, 3) := by decide +kernel
theorem dX8_rose_57 : decode cX8_rose 57 = .ok (.ifCond .eq 67, 3) := by decide +kernel
theorem dX8_rose_60 : decode cX8_rose 60 = .ok (.aload_n 0, 1) := by decide +kernel
theorem dX8_rose_61 : decode cX8_rose 61 = .ok (.getfield 19, 3) := by decide +kernel
theorem dX8_rose_64 : decode cX8_rose 64 = .ok (.aload_n 0, 1) := by decide +kernel
theorem dX8_rose_65 : decode cX8_rose 65 = .ok (.getfield 10, 3) := by decide +kernel
theorem dX8_rose_68 : decode cX8_rose 68 = .ok (.invokevirtual 194, 3) := by decide +kernel
theorem dX8_rose_71 : decode cX8_rose 71 = .ok (.aload_n 0, 1) := by decide +kernel
theorem dX8_rose_72 : decode cX8_rose 72 = .ok (.getfield 19, 3) := by decide +kernel
theorem dX8_rose_75 : decode cX8_rose 75 = .ok (.getfield 74, 3) := by decide +kernel
theorem dX8_rose_78 : decode cX8_rose 78 = .ok (.iload 5, 2) := by decide +kernel
theorem dX8_rose_80 : decode cX8_rose 80 = .ok (.aaload, 1) := by decide +kernel
theorem dX8_rose_81 : decode cX8_rose 81 = .ok (.iconst (-1), 1) := by decide +kernel
theorem dX8_rose_82 : decode cX8_rose 82 = .ok (.putfield 84, 3) := by decide +kernel
theorem dX8_rose_85 : decode cX8_rose 85 = .ok (.aload_n 0, 1) := by decide +kernel
theorem dX8_rose_86 : decode cX8_rose 86 = .ok (.getfield 19, 3) := by decide +kernel
theorem dX8_rose_89 : decode cX8_rose 89 = .ok (.iload_n 1, 1) := by decide +kernel
theorem dX8_rose_90 : decode cX8_rose 90 = .ok (.invokevirtual 152, 3) := by decide +kernel
theorem dX8_rose_93 : decode cX8_rose 93 = .ok (.pop, 1) := by decide +kernel
theorem dX8_rose_94 : decode cX8_rose 94 = .ok (.iload_n 3, 1) := by decide +kernel
theorem dX8_rose_95 : decode cX8_rose 95 = .ok (.ldc 127, 2) := by decide +kernel
theorem dX8_rose_97 : decode cX8_rose 97 = .ok (.if_icmp .eq 15, 3) := by decide +kernel
theorem dX8_rose_100 : decode cX8_rose 100 = .ok (.aload_n 0, 1) := by decide +kernel
theorem dX8_rose_101 : decode cX8_rose 101 = .ok (.getfield 19, 3) := by decide +kernel
theorem dX8_rose_104 : decode cX8_rose 104 = .ok (.getfield 158, 3) := by decide +kernel
theorem dX8_rose_107 : decode cX8_rose 107 = .ok (.iload 4, 2) := by decide +kernel
theorem dX8_rose_109 : decode cX8_rose 109 = .ok (.if_icmp .le 15, 3) := by decide +kernel
theorem dX8_rose_112 : decode cX8_rose 112 = .ok (.iload 5, 2) := by decide +kernel
theorem dX8_rose_114 : decode cX8_rose 114 = .ok (.istore_n 3, 1) := by decide +kernel
theorem dX8_rose_115 : decode cX8_rose 115 = .ok (.aload_n 0, 1) := by decide +kernel
theorem dX8_rose_116 : decode cX8_rose 116 = .ok (.getfield 19, 3) := by decide +kernel
theorem dX8_rose_119 : decode cX8_rose 119 = .ok (.getfield 158, 3) := by decide +kernel
theorem dX8_rose_122 : decode cX8_rose 122 = .ok (.istore 4, 2) := by decide +kernel
theorem dX8_rose_124 : decode cX8_rose 124 = .ok (.iinc 5 1, 3) := by decide +kernel
theorem dX8_rose_127 : decode cX8_rose 127 = .ok (.goto (-95), 3) := by decide +kernel
theorem dX8_rose_130 : decode cX8_rose 130 = .ok (.iload_n 2, 1) := by decide +kernel
theorem dX8_rose_131 : decode cX8_rose 131 = .ok (.ifCond .ne 7, 3) := by decide +kernel
theorem dX8_rose_134 : decode cX8_rose 134 = .ok (.iload_n 3, 1) := by decide +kernel
theorem dX8_rose_135 : decode cX8_rose 135 = .ok (.goto 5, 3) := by decide +kernel
theorem dX8_rose_138 : decode cX8_rose 138 = .ok (.iload 4, 2) := by decide +kernel
theorem dX8_rose_140 : decode cX8_rose 140 = .ok (.ireturn, 1) := by decide +kernel
theorem dX8_book_0 : decode cX8_book 0 = .ok (.aload_n 0, 1) := by decide +kernel
theorem dX8_book_1 : decode cX8_book 1 = .ok (.iload_n 1, 1) := by decide +kernel
theorem dX8_book_2 : decode cX8_book 2 = .ok (.invokevirtual 204, 3) := by decide +kernel
theorem dX8_book_5 : decode cX8_book 5 = .ok (.istore_n 2, 1) := by decide +kernel
theorem dX8_book_6 : decode cX8_book 6 = .ok (.iload_n 2, 1) := by decide +kernel
theorem dX8_book_7 : decode cX8_book 7 = .ok (.ifCond .eq 5, 3) := by decide +kernel
theorem dX8_book_10 : decode cX8_book 10 = .ok (.iload_n 2, 1) := by decide +kernel
theorem dX8_book_11 : decode cX8_book 11 = .ok (.ireturn, 1) := by decide +kernel
theorem dX8_book_12 : decode cX8_book 12 = .ok (.aload_n 0, 1) := by decide +kernel
theorem dX8_book_13 : decode cX8_book 13 = .ok (.getfield 38, 3) := by decide +kernel
theorem dX8_book_16 : decode cX8_book 16 = .ok (.iload_n 1, 1) := by decide +kernel
theorem dX8_book_17 : decode cX8_book 17 = .ok (.aaload, 1) := by decide +kernel
theorem dX8_book_18 : decode cX8_book 18 = .ok (.astore_n 3, 1) := by decide +kernel
theorem dX8_book_19 : decode cX8_book 19 = .ok (.aload_n 0, 1) := by decide +kernel
theorem dX8_book_20 : decode cX8_book 20 = .ok (.getfield 10, 3) := by decide +kernel
theorem dX8_book_23 : decode cX8_book 23 = .ok (.invokevirtual 155, 3) := by decide +kernel
theorem dX8_book_26 : decode cX8_book 26 = .ok (.istore 4, 2) := by decide +kernel
theorem dX8_book_28 : decode cX8_book 28 = .ok (.iconst 0, 1) := by decide +kernel
theorem dX8_book_29 : decode cX8_book 29 = .ok (.istore 5, 2) := by decide +kernel
theorem dX8_book_31 : decode cX8_book 31 = .ok (.iconst 0, 1) := by decide +kernel
theorem dX8_book_32 : decode cX8_book 32 = .ok (.istore 6, 2) := by decide +kernel
theorem dX8_book_34 : decode cX8_book 34 = .ok (.iload 6, 2) := by decide +kernel
theorem dX8_book_36 : decode cX8_book 36 = .ok (.aload_n 3, 1) := by decide +kernel
theorem dX8_book_37 : decode cX8_book 37 = .ok (.getfield 207, 3) := by decide +kernel
theorem dX8_book_40 : decode cX8_book 40 = .ok (.if_icmp .ge 69, 3) := by decide +kernel
theorem dX8_book_43 : decode cX8_book 43 = .ok (.aload_n 3, 1) := by decide +kernel
theorem dX8_book_44 : decode cX8_book 44 = .ok (.getfield 210, 3) := by decide +kernel
theorem dX8_book_47 : decode cX8_book 47 = .ok (.iload 6, 2) := by decide +kernel
theorem dX8_book_49 : decode cX8_book 49 = .ok (.iaload, 1) := by decide +kernel
theorem dX8_book_50 : decode cX8_book 50 = .ok (.istore 7, 2) := by decide +kernel
theorem dX8_book_52 : decode cX8_book 52 = .ok (.iload 7, 2) := by decide +kernel
theorem dX8_book_54 : decode cX8_book 54 = .ok (.ldc 127, 2) := by decide +kernel
theorem dX8_book_56 : decode cX8_book 56 = .ok (.if_icmp .eq 47, 3) := by decide +kernel
theorem dX8_book_59 : decode cX8_book 59 = .ok (.aload_n 0, 1) := by decide +kernel
theorem dX8_book_60 : decode cX8_book 60 = .ok (.iload 7, 2) := by decide +kernel
theorem dX8_book_62 : decode cX8_book 62 = .ok (.invokevirtual 113, 3) := by decide +kernel
theorem dX8_book_65 : decode cX8_book 65 = .ok (.ifCond .eq 23, 3) := by decide +kernel
theorem dX8_book_68 : decode cX8_book 68 = .ok (.aload_n 0, 1) := by decide +kernel
theorem dX8_book_69 : decode cX8_book 69 = .ok (.getfield 10, 3) := by decide +kernel
theorem dX8_book_72 : decode cX8_book 72 = .ok (.getfield 167, 3) := by decide +kernel
theorem dX8_book_75 : decode cX8_book 75 = .ok (.iload 4, 2) := by decide +kernel
theorem dX8_book_77 : decode cX8_book 77 = .ok (.invokevirtual 213, 3) := by decide +kernel
theorem dX8_book_80 : decode cX8_book 80 = .ok (.iload 7, 2) := by decide +kernel
theorem dX8_book_82 : decode cX8_book 82 = .ok (.invokestatic 116, 3) := by decide +kernel
theorem dX8_book_85 : decode cX8_book 85 = .ok (.ifCond .ne 6, 3) := by decide +kernel
theorem dX8_book_88 : decode cX8_book 88 = .ok (.iload 5, 2) := by decide +kernel
theorem dX8_book_90 : decode cX8_book 90 = .ok (.ireturn, 1) := by decide +kernel
theorem dX8_book_91 : decode cX8_book 91 = .ok (.iload 4, 2) := by decide +kernel
theorem dX8_book_93 : decode cX8_book 93 = .ok (.iconst 1, 1) := by decide +kernel
theorem dX8_book_94 : decode cX8_book 94 = .ok (.iload 7, 2) := by decide +kernel
theorem dX8_book_96 : decode cX8_book 96 = .ok (.ishl, 1) := by decide +kernel
theorem dX8_book_97 : decode cX8_book 97 = .ok (.ior, 1) := by decide +kernel
theorem dX8_book_98 : decode cX8_book 98 = .ok (.istore 4, 2) := by decide +kernel
theorem dX8_book_100 : decode cX8_book 100 = .ok (.iinc 5 1, 3) := by decide +kernel
theorem dX8_book_103 : decode cX8_book 103 = .ok (.iinc 6 1, 3) := by decide +kernel
theorem dX8_book_106 : decode cX8_book 106 = .ok (.goto (-72), 3) := by decide +kernel
theorem dX8_book_109 : decode cX8_book 109 = .ok (.iload 5, 2) := by decide +kernel
theorem dX8_book_111 : decode cX8_book 111 = .ok (.ireturn, 1) := by decide +kernel
theorem dX8_fee_0 : decode cX8_fee 0 = .ok (.aload_n 0, 1) := by decide +kernel
theorem dX8_fee_1 : decode cX8_fee 1 = .ok (.getfield 10, 3) := by decide +kernel
theorem dX8_fee_4 : decode cX8_fee 4 = .ok (.iconst 1, 1) := by decide +kernel
theorem dX8_fee_5 : decode cX8_fee 5 = .ok (.invokevirtual 216, 3) := by decide +kernel
theorem dX8_fee_8 : decode cX8_fee 8 = .ok (.astore_n 1, 1) := by decide +kernel
theorem dX8_fee_9 : decode cX8_fee 9 = .ok (.aload_n 1, 1) := by decide +kernel
theorem dX8_fee_10 : decode cX8_fee 10 = .ok (.ifnonnull 13, 3) := by decide +kernel
theorem dX8_fee_13 : decode cX8_fee 13 = .ok (.aload_n 0, 1) := by decide +kernel
theorem dX8_fee_14 : decode cX8_fee 14 = .ok (.getfield 10, 3) := by decide +kernel
theorem dX8_fee_17 : decode cX8_fee 17 = .ok (.getfield 158, 3) := by decide +kernel
theorem dX8_fee_20 : decode cX8_fee 20 = .ok (.goto 22, 3) := by decide +kernel
theorem dX8_fee_23 : decode cX8_fee 23 = .ok (.aload_n 1, 1) := by decide +kernel
theorem dX8_fee_24 : decode cX8_fee 24 = .ok (.aload_n 0, 1) := by decide +kernel
theorem dX8_fee_25 : decode cX8_fee 25 = .ok (.getfield 10, 3) := by decide +kernel
theorem dX8_fee_28 : decode cX8_fee 28 = .ok (.getfield 158, 3) := by decide +kernel
theorem dX8_fee_31 : decode cX8_fee 31 = .ok (.aload_n 0, 1) := by decide +kernel
theorem dX8_fee_32 : decode cX8_fee 32 = .ok (.getfield 10, 3) := by decide +kernel
theorem dX8_fee_35 : decode cX8_fee 35 = .ok (.getfield 149, 3) := by decide +kernel
theorem dX8_fee_38 : decode cX8_fee 38 = .ok (.iconst 0, 1) := by decide +kernel
theorem dX8_fee_39 : decode cX8_fee 39 = .ok (.invokevirtual 220, 3) := by decide +kernel
theorem dX8_fee_42 : decode cX8_fee 42 = .ok (.ireturn, 1) := by decide +kernel
theorem dX8_fine_0 : decode cX8_fine 0 = .ok (.aload_n 0, 1) := by decide +kernel
theorem dX8_fine_1 : decode cX8_fine 1 = .ok (.iload_n 1, 1) := by decide +kernel
theorem dX8_fine_2 : decode cX8_fine 2 = .ok (.invokevirtual 71, 3) := by decide +kernel
theorem dX8_fine_5 : decode cX8_fine 5 = .ok (.ifCond .ne 6, 3) := by decide +kernel
theorem dX8_fine_8 : decode cX8_fine 8 = .ok (.ldc 58, 2) := by decide +kernel
theorem dX8_fine_10 : decode cX8_fine 10 = .ok (.ireturn, 1) := by decide +kernel
theorem dX8_fine_11 : decode cX8_fine 11 = .ok (.aload_n 0, 1) := by decide +kernel
theorem dX8_fine_12 : decode cX8_fine 12 = .ok (.getfield 10, 3) := by decide +kernel
theorem dX8_fine_15 : decode cX8_fine 15 = .ok (.getfield 74, 3) := by decide +kernel
theorem dX8_fine_18 : decode cX8_fine 18 = .ok (.iload_n 1, 1) := by decide +kernel
theorem dX8_fine_19 : decode cX8_fine 19 = .ok (.aaload, 1) := by decide +kernel
theorem dX8_fine_20 : decode cX8_fine 20 = .ok (.astore_n 2, 1) := by decide +kernel
theorem dX8_fine_21 : decode cX8_fine 21 = .ok (.aload_n 0, 1) := by decide +kernel
theorem dX8_fine_22 : decode cX8_fine 22 = .ok (.getfield 10, 3) := by decide +kernel
theorem dX8_fine_25 : decode cX8_fine 25 = .ok (.iconst 2, 1) := by decide +kernel
theorem dX8_fine_26 : decode cX8_fine 26 = .ok (.invokevirtual 216, 3) := by decide +kernel
theorem dX8_fine_29 : decode cX8_fine 29 = .ok (.astore_n 3, 1) := by decide +kernel
theorem dX8_fine_30 : decode cX8_fine 30 = .ok (.aload_n 3, 1) := by decide +kernel
theorem dX8_fine_31 : decode cX8_fine 31 = .ok (.ifnonnull 10, 3) := by decide +kernel
theorem dX8_fine_34 : decode cX8_fine 34 = .ok (.aload_n 2, 1) := by decide +kernel
theorem dX8_fine_35 : decode cX8_fine 35 = .ok (.getfield 90, 3) := by decide +kernel
theorem dX8_fine_38 : decode cX8_fine 38 = .ok (.goto 16, 3) := by decide +kernel
theorem dX8_fine_41 : decode cX8_fine 41 = .ok (.aload_n 3, 1) := by decide +kernel
theorem dX8_fine_42 : decode cX8_fine 42 = .ok (.aload_n 2, 1) := by decide +kernel
theorem dX8_fine_43 : decode cX8_fine 43 = .ok (.getfield 87, 3) := by decide +kernel
theorem dX8_fine_46 : decode cX8_fine 46 = .ok (.aload_n 2, 1) := by decide +kernel
theorem dX8_fine_47 : decode cX8_fine 47 = .ok (.getfield 90, 3) := by decide +kernel
theorem dX8_fine_50 : decode cX8_fine 50 = .ok (.iconst 0, 1) := by decide +kernel
theorem dX8_fine_51 : decode cX8_fine 51 = .ok (.invokevirtual 220, 3) := by decide +kernel
theorem dX8_fine_54 : decode cX8_fine 54 = .ok (.ireturn, 1) := by decide +kernel
theorem dX8_feed_0 : decode cX8_feed 0 = .ok (.aload_n 0, 1) := by decide +kernel
theorem dX8_feed_1 : decode cX8_feed 1 = .ok (.getfield 32, 3) := by decide +kernel
theorem dX8_feed_4 : decode cX8_feed 4 = .ok (.getfield 225, 3) := by decide +kernel
theorem dX8_feed_7 : decode cX8_feed 7 = .ok (.bipush 12, 2) := by decide +kernel
theorem dX8_feed_9 : decode cX8_feed 9 = .ok (.iadd, 1) := by decide +kernel
theorem dX8_feed_10 : decode cX8_feed 10 = .ok (.bipush 96, 2) := by decide +kernel
theorem dX8_feed_12 : decode cX8_feed 12 = .ok (.if_icmp .le 6, 3) := by decide +kernel
theorem dX8_feed_15 : decode cX8_feed 15 = .ok (.ldc 228, 2) := by decide +kernel
theorem dX8_feed_17 : decode cX8_feed 17 = .ok (.ireturn, 1) := by decide +kernel
theorem dX8_feed_18 : decode cX8_feed 18 = .ok (.aload_n 0, 1) := by decide +kernel
theorem dX8_feed_19 : decode cX8_feed 19 = .ok (.getfield 32, 3) := by decide +kernel
theorem dX8_feed_22 : decode cX8_feed 22 = .ok (.iload_n 1, 1) := by decide +kernel
theorem dX8_feed_23 : decode cX8_feed 23 = .ok (.invokevirtual 229, 3) := by decide +kernel
theorem dX8_feed_26 : decode cX8_feed 26 = .ok (.aload_n 0, 1) := by decide +kernel
theorem dX8_feed_27 : decode cX8_feed 27 = .ok (.getfield 32, 3) := by decide +kernel
theorem dX8_feed_30 : decode cX8_feed 30 = .ok (.iload_n 2, 1) := by decide +kernel
theorem dX8_feed_31 : decode cX8_feed 31 = .ok (.invokevirtual 229, 3) := by decide +kernel
theorem dX8_feed_34 : decode cX8_feed 34 = .ok (.aload_n 0, 1) := by decide +kernel
theorem dX8_feed_35 : decode cX8_feed 35 = .ok (.getfield 32, 3) := by decide +kernel
theorem dX8_feed_38 : decode cX8_feed 38 = .ok (.iload_n 3, 1) := by decide +kernel
theorem dX8_feed_39 : decode cX8_feed 39 = .ok (.invokevirtual 229, 3) := by decide +kernel
theorem dX8_feed_42 : decode cX8_feed 42 = .ok (.aload_n 0, 1) := by decide +kernel
theorem dX8_feed_43 : decode cX8_feed 43 = .ok (.getfield 32, 3) := by decide +kernel
theorem dX8_feed_46 : decode cX8_feed 46 = .ok (.getfield 225, 3) := by decide +kernel
theorem dX8_feed_49 : decode cX8_feed 49 = .ok (.ireturn, 1) := by decide +kernel
theorem dX8_trim_0 : decode cX8_trim 0 = .ok (.iload_n 1, 1) := by decide +kernel
theorem dX8_trim_1 : decode cX8_trim 1 = .ok (.iconst 0, 1) := by decide +kernel
theorem dX8_trim_2 : decode cX8_trim 2 = .ok (.aload_n 0, 1) := by decide +kernel
theorem dX8_trim_3 : decode cX8_trim 3 = .ok (.getfield 32, 3) := by decide +kernel
theorem dX8_trim_6 : decode cX8_trim 6 = .ok (.getfield 225, 3) := by decide +kernel
theorem dX8_trim_9 : decode cX8_trim 9 = .ok (.invokestatic 54, 3) := by decide +kernel
theorem dX8_trim_12 : decode cX8_trim 12 = .ok (.ifCond .ne 6, 3) := by decide +kernel
theorem dX8_trim_15 : decode cX8_trim 15 = .ok (.ldc 58, 2) := by decide +kernel
theorem dX8_trim_17 : decode cX8_trim 17 = .ok (.ireturn, 1) := by decide +kernel
theorem dX8_trim_18 : decode cX8_trim 18 = .ok (.aload_n 0, 1) := by decide +kernel
theorem dX8_trim_19 : decode cX8_trim 19 = .ok (.getfield 32, 3) := by decide +kernel
theorem dX8_trim_22 : decode cX8_trim 22 = .ok (.iload_n 1, 1) := by decide +kernel
theorem dX8_trim_23 : decode cX8_trim 23 = .ok (.putfield 225, 3) := by decide +kernel
theorem dX8_trim_26 : decode cX8_trim 26 = .ok (.iload_n 1, 1) := by decide +kernel
theorem dX8_trim_27 : decode cX8_trim 27 = .ok (.ireturn, 1) := by decide +kernel
theorem dX8_text_0 : decode cX8_text 0 = .ok (.aload_n 0, 1) := by decide +kernel
theorem dX8_text_1 : decode cX8_text 1 = .ok (.getfield 32, 3) := by decide +kernel
theorem dX8_text_4 : decode cX8_text 4 = .ok (.invokevirtual 233, 3) := by decide +kernel
theorem dX8_text_7 : decode cX8_text 7 = .ok (.istore_n 1, 1) := by decide +kernel
theorem dX8_text_8 : decode cX8_text 8 = .ok (.aload_n 0, 1) := by decide +kernel
theorem dX8_text_9 : decode cX8_text 9 = .ok (.getfield 32, 3) := by decide +kernel
theorem dX8_text_12 : decode cX8_text 12 = .ok (.iconst 0, 1) := by decide +kernel
theorem dX8_text_13 : decode cX8_text 13 = .ok (.putfield 225, 3) := by decide +kernel
theorem dX8_text_16 : decode cX8_text 16 = .ok (.iload_n 1, 1) := by decide +kernel
theorem dX8_text_17 : decode cX8_text 17 = .ok (.ifCond .ge 20, 3) := by decide +kernel
theorem dX8_text_20 : decode cX8_text 20 = .ok (.aload_n 0, 1) := by decide +kernel
theorem dX8_text_21 : decode cX8_text 21 = .ok (.getfield 10, 3) := by decide +kernel
theorem dX8_text_24 : decode cX8_text 24 = .ok (.aload_n 0, 1) := by decide +kernel
theorem dX8_text_25 : decode cX8_text 25 = .ok (.getfield 32, 3) := by decide +kernel
theorem dX8_text_28 : decode cX8_text 28 = .ok (.invokevirtual 236, 3) := by decide +kernel
theorem dX8_text_31 : decode cX8_text 31 = .ok (.invokevirtual 240, 3) := by decide +kernel
theorem dX8_text_34 : decode cX8_text 34 = .ok (.goto 7, 3) := by decide +kernel
theorem dX8_text_37 : decode cX8_text 37 = .ok (.bipush (-100), 2) := by decide +kernel
theorem dX8_text_39 : decode cX8_text 39 = .ok (.iload_n 1, 1) := by decide +kernel
theorem dX8_text_40 : decode cX8_text 40 = .ok (.isub, 1) := by decide +kernel
theorem dX8_text_41 : decode cX8_text 41 = .ok (.ireturn, 1) := by decide +kernel
theorem dX8_textTold_0 : decode cX8_textTold 0 = .ok (.iload_n 1, 1) := by decide +kernel
theorem dX8_textTold_1 : decode cX8_textTold 1 = .ok (.iconst 0, 1) := by decide +kernel
theorem dX8_textTold_2 : decode cX8_textTold 2 = .ok (.aload_n 0, 1) := by decide +kernel
theorem dX8_textTold_3 : decode cX8_textTold 3 = .ok (.getfield 10, 3) := by decide +kernel
theorem dX8_textTold_6 : decode cX8_textTold 6 = .ok (.getfield 244, 3) := by decide +kernel
theorem dX8_textTold_9 : decode cX8_textTold 9 = .ok (.iconst 1, 1) := by decide +kernel
theorem dX8_textTold_10 : decode cX8_textTold 10 = .ok (.isub, 1) := by decide +kernel
theorem dX8_textTold_11 : decode cX8_textTold 11 = .ok (.invokestatic 54, 3) := by decide +kernel
theorem dX8_textTold_14 : decode cX8_textTold 14 = .ok (.ifCond .eq 12, 3) := by decide +kernel
theorem dX8_textTold_17 : decode cX8_textTold 17 = .ok (.iload_n 2, 1) := by decide +kernel
theorem dX8_textTold_18 : decode cX8_textTold 18 = .ok (.iconst 0, 1) := by decide +kernel
theorem dX8_textTold_19 : decode cX8_textTold 19 = .ok (.iconst 1, 1) := by decide +kernel
theorem dX8_textTold_20 : decode cX8_textTold 20 = .ok (.invokestatic 54, 3) := by decide +kernel
theorem dX8_textTold_23 : decode cX8_textTold 23 = .ok (.ifCond .ne 6, 3) := by decide +kernel
theorem dX8_textTold_26 : decode cX8_textTold 26 = .ok (.ldc 58, 2) := by decide +kernel
theorem dX8_textTold_28 : decode cX8_textTold 28 = .ok (.ireturn, 1) := by decide +kernel
theorem dX8_textTold_29 : decode cX8_textTold 29 = .ok (.aload_n 0, 1) := by decide +kernel
theorem dX8_textTold_30 : decode cX8_textTold 30 = .ok (.getfield 10, 3) := by decide +kernel
theorem dX8_textTold_33 : decode cX8_textTold 33 = .ok (.getfield 247, 3) := by decide +kernel
theorem dX8_textTold_36 : decode cX8_textTold 36 = .ok (.iload_n 1, 1) := by decide +kernel
theorem dX8_textTold_37 : decode cX8_textTold 37 = .ok (.aaload, 1) := by decide +kernel
theorem dX8_textTold_38 : decode cX8_textTold 38 = .ok (.astore_n 3, 1) := by decide +kernel
theorem dX8_textTold_39 : decode cX8_textTold 39 = .ok (.iload_n 2, 1) := by decide +kernel
theorem dX8_textTold_40 : decode cX8_textTold 40 = .ok (.ifCond .ne 10, 3) := by decide +kernel
theorem dX8_textTold_43 : decode cX8_textTold 43 = .ok (.aload_n 3, 1) := by decide +kernel
theorem dX8_textTold_44 : decode cX8_textTold 44 = .ok (.getfield 251, 3) := by decide +kernel
theorem dX8_textTold_47 : decode cX8_textTold 47 = .ok (.goto 7, 3) := by decide +kernel
theorem dX8_textTold_50 : decode cX8_textTold 50 = .ok (.aload_n 3, 1) := by decide +kernel
theorem dX8_textTold_51 : decode cX8_textTold 51 = .ok (.getfield 254, 3) := by decide +kernel
theorem dX8_textTold_54 : decode cX8_textTold 54 = .ok (.ireturn, 1) := by decide +kernel
theorem dX8_why_0 : decode cX8_why 0 = .ok (.iload_n 1, 1) := by decide +kernel
theorem dX8_why_1 : decode cX8_why 1 = .ok (.iconst 0, 1) := by decide +kernel
theorem dX8_why_2 : decode cX8_why 2 = .ok (.iconst 2, 1) := by decide +kernel
theorem dX8_why_3 : decode cX8_why 3 = .ok (.invokestatic 54, 3) := by decide +kernel
theorem dX8_why_6 : decode cX8_why 6 = .ok (.ifCond .eq 15, 3) := by decide +kernel
theorem dX8_why_9 : decode cX8_why 9 = .ok (.aload_n 0, 1) := by decide +kernel
theorem dX8_why_10 : decode cX8_why 10 = .ok (.getfield 10, 3) := by decide +kernel
theorem dX8_why_13 : decode cX8_why 13 = .ok (.getfield 257, 3) := by decide +kernel
theorem dX8_why_16 : decode cX8_why 16 = .ok (.iload_n 1, 1) := by decide +kernel
theorem dX8_why_17 : decode cX8_why 17 = .ok (.iaload, 1) := by decide +kernel
theorem dX8_why_18 : decode cX8_why 18 = .ok (.goto 5, 3) := by decide +kernel
theorem dX8_why_21 : decode cX8_why 21 = .ok (.ldc 58, 2) := by decide +kernel
theorem dX8_why_23 : decode cX8_why 23 = .ok (.ireturn, 1) := by decide +kernel
theorem dX8_sheet_0 : decode cX8_sheet 0 = .ok (.iload_n 1, 1) := by decide +kernel
theorem dX8_sheet_1 : decode cX8_sheet 1 = .ok (.invokestatic 260, 3) := by decide +kernel
theorem dX8_sheet_4 : decode cX8_sheet 4 = .ok (.ifCond .eq 12, 3) := by decide +kernel
theorem dX8_sheet_7 : decode cX8_sheet 7 = .ok (.iload_n 2, 1) := by decide +kernel
theorem dX8_sheet_8 : decode cX8_sheet 8 = .ok (.iconst (-1), 1) := by decide +kernel
theorem dX8_sheet_9 : decode cX8_sheet 9 = .ok (.iconst 1, 1) := by decide +kernel
theorem dX8_sheet_10 : decode cX8_sheet 10 = .ok (.invokestatic 54, 3) := by decide +kernel
theorem dX8_sheet_13 : decode cX8_sheet 13 = .ok (.ifCond .ne 6, 3) := by decide +kernel
theorem dX8_sheet_16 : decode cX8_sheet 16 = .ok (.ldc 58, 2) := by decide +kernel
theorem dX8_sheet_18 : decode cX8_sheet 18 = .ok (.ireturn, 1) := by decide +kernel
theorem dX8_sheet_19 : decode cX8_sheet 19 = .ok (.iload_n 2, 1) := by decide +kernel
theorem dX8_sheet_20 : decode cX8_sheet 20 = .ok (.iconst (-1), 1) := by decide +kernel
theorem dX8_sheet_21 : decode cX8_sheet 21 = .ok (.if_icmp .ne 16, 3) := by decide +kernel
theorem dX8_sheet_24 : decode cX8_sheet 24 = .ok (.aload_n 0, 1) := by decide +kernel
theorem dX8_sheet_25 : decode cX8_sheet 25 = .ok (.getfield 38, 3) := by decide +kernel
theorem dX8_sheet_28 : decode cX8_sheet 28 = .ok (.iload_n 1, 1) := by decide +kernel
theorem dX8_sheet_29 : decode cX8_sheet 29 = .ok (.aaload, 1) := by decide +kernel
theorem dX8_sheet_30 : decode cX8_sheet 30 = .ok (.iconst (-1), 1) := by decide +kernel
theorem dX8_sheet_31 : decode cX8_sheet 31 = .ok (.iconst 0, 1) := by decide +kernel
theorem dX8_sheet_32 : decode cX8_sheet 32 = .ok (.invokevirtual 263, 3) := by decide +kernel
theorem dX8_sheet_35 : decode cX8_sheet 35 = .ok (.iconst 0, 1) := by decide +kernel
theorem dX8_sheet_36 : decode cX8_sheet 36 = .ok (.ireturn, 1) := by decide +kernel
theorem dX8_sheet_37 : decode cX8_sheet 37 = .ok (.iload_n 3, 1) := by decide +kernel
theorem dX8_sheet_38 : decode cX8_sheet 38 = .ok (.bipush 24, 2) := by decide +kernel
theorem dX8_sheet_40 : decode cX8_sheet 40 = .ok (.if_icmp .le 6, 3) := by decide +kernel
theorem dX8_sheet_43 : decode cX8_sheet 43 = .ok (.ldc 58, 2) := by decide +kernel
theorem dX8_sheet_45 : decode cX8_sheet 45 = .ok (.ireturn, 1) := by decide +kernel
theorem dX8_sheet_46 : decode cX8_sheet 46 = .ok (.iload_n 3, 1) := by decide +kernel
theorem dX8_sheet_47 : decode cX8_sheet 47 = .ok (.ifCond .ge 7, 3) := by decide +kernel
theorem dX8_sheet_50 : decode cX8_sheet 50 = .ok (.ldc_w 267, 3) := by decide +kernel
theorem dX8_sheet_53 : decode cX8_sheet 53 = .ok (.ireturn, 1) := by decide +kernel
theorem dX8_sheet_54 : decode cX8_sheet 54 = .ok (.aload_n 0, 1) := by decide +kernel
theorem dX8_sheet_55 : decode cX8_sheet 55 = .ok (.getfield 38, 3) := by decide +kernel
theorem dX8_sheet_58 : decode cX8_sheet 58 = .ok (.iload_n 1, 1) := by decide +kernel
theorem dX8_sheet_59 : decode cX8_sheet 59 = .ok (.aaload, 1) := by decide +kernel
theorem dX8_sheet_60 : decode cX8_sheet 60 = .ok (.iload_n 2, 1) := by decide +kernel
theorem dX8_sheet_61 : decode cX8_sheet 61 = .ok (.iload_n 3, 1) := by decide +kernel
theorem dX8_sheet_62 : decode cX8_sheet 62 = .ok (.invokevirtual 263, 3) := by decide +kernel
theorem dX8_sheet_65 : decode cX8_sheet 65 = .ok (.iload_n 3, 1) := by decide +kernel
theorem dX8_sheet_66 : decode cX8_sheet 66 = .ok (.ireturn, 1) := by decide +kernel
theorem dX8_mark_0 : decode cX8_mark 0 = .ok (.aload_n 0, 1) := by decide +kernel
theorem dX8_mark_1 : decode cX8_mark 1 = .ok (.iload_n 1, 1) := by decide +kernel
theorem dX8_mark_2 : decode cX8_mark 2 = .ok (.invokevirtual 204, 3) := by decide +kernel
theorem dX8_mark_5 : decode cX8_mark 5 = .ok (.istore 4, 2) := by decide +kernel
theorem dX8_mark_7 : decode cX8_mark 7 = .ok (.iload 4, 2) := by decide +kernel
theorem dX8_mark_9 : decode cX8_mark 9 = .ok (.ifCond .eq 6, 3) := by decide +kernel
theorem dX8_mark_12 : decode cX8_mark 12 = .ok (.iload 4, 2) := by decide +kernel
theorem dX8_mark_14 : decode cX8_mark 14 = .ok (.ireturn, 1) := by decide +kernel
theorem dX8_mark_15 : decode cX8_mark 15 = .ok (.aload_n 0, 1) := by decide +kernel
theorem dX8_mark_16 : decode cX8_mark 16 = .ok (.getfield 38, 3) := by decide +kernel
theorem dX8_mark_19 : decode cX8_mark 19 = .ok (.iload_n 1, 1) := by decide +kernel
theorem dX8_mark_20 : decode cX8_mark 20 = .ok (.aaload, 1) := by decide +kernel
theorem dX8_mark_21 : decode cX8_mark 21 = .ok (.astore 5, 2) := by decide +kernel
theorem dX8_mark_23 : decode cX8_mark 23 = .ok (.aload 5, 2) := by decide +kernel
theorem dX8_mark_25 : decode cX8_mark 25 = .ok (.iload_n 2, 1) := by decide +kernel
theorem dX8_mark_26 : decode cX8_mark 26 = .ok (.invokevirtual 268, 3) := by decide +kernel
theorem dX8_mark_29 : decode cX8_mark 29 = .ok (.ifCond .ne 7, 3) := by decide +kernel
theorem dX8_mark_32 : decode cX8_mark 32 = .ok (.ldc_w 271, 3) := by decide +kernel
theorem dX8_mark_35 : decode cX8_mark 35 = .ok (.ireturn, 1) := by decide +kernel
theorem dX8_mark_36 : decode cX8_mark 36 = .ok (.aload 5, 2) := by decide +kernel
theorem dX8_mark_38 : decode cX8_mark 38 = .ok (.getfield 272, 3) := by decide +kernel
theorem dX8_mark_41 : decode cX8_mark 41 = .ok (.ifCond .ne 23, 3) := by decide +kernel
theorem dX8_mark_44 : decode cX8_mark 44 = .ok (.iload_n 3, 1) := by decide +kernel
theorem dX8_mark_45 : decode cX8_mark 45 = .ok (.ldc 127, 2) := by decide +kernel
theorem dX8_mark_47 : decode cX8_mark 47 = .ok (.if_icmp .ne 6, 3) := by decide +kernel
theorem dX8_mark_50 : decode cX8_mark 50 = .ok (.ldc 107, 2) := by decide +kernel
theorem dX8_mark_52 : decode cX8_mark 52 = .ok (.ireturn, 1) := by decide +kernel
theorem dX8_mark_53 : decode cX8_mark 53 = .ok (.aload 5, 2) := by decide +kernel
theorem dX8_mark_55 : decode cX8_mark 55 = .ok (.getfield 210, 3) := by decide +kernel
theorem dX8_mark_58 : decode cX8_mark 58 = .ok (.iload_n 2, 1) := by decide +kernel
theorem dX8_mark_59 : decode cX8_mark 59 = .ok (.iload_n 3, 1) := by decide +kernel
theorem dX8_mark_60 : decode cX8_mark 60 = .ok (.i2s, 1) := by decide +kernel
theorem dX8_mark_61 : decode cX8_mark 61 = .ok (.iastore, 1) := by decide +kernel
theorem dX8_mark_62 : decode cX8_mark 62 = .ok (.iconst 1, 1) := by decide +kernel
theorem dX8_mark_63 : decode cX8_mark 63 = .ok (.ireturn, 1) := by decide +kernel
theorem dX8_mark_64 : decode cX8_mark 64 = .ok (.iload_n 3, 1) := by decide +kernel
theorem dX8_mark_65 : decode cX8_mark 65 = .ok (.ldc 127, 2) := by decide +kernel
theorem dX8_mark_67 : decode cX8_mark 67 = .ok (.if_icmp .eq 19, 3) := by decide +kernel
theorem dX8_mark_70 : decode cX8_mark 70 = .ok (.iload_n 3, 1) := by decide +kernel
theorem dX8_mark_71 : decode cX8_mark 71 = .ok (.ldc_w 275, 3) := by decide +kernel
theorem dX8_mark_74 : decode cX8_mark 74 = .ok (.ldc_w 276, 3) := by decide +kernel
theorem dX8_mark_77 : decode cX8_mark 77 = .ok (.invokestatic 54, 3) := by decide +kernel
theorem dX8_mark_80 : decode cX8_mark 80 = .ok (.ifCond .ne 6, 3) := by decide +kernel
theorem dX8_mark_83 : decode cX8_mark 83 = .ok (.ldc 58, 2) := by decide +kernel
theorem dX8_mark_85 : decode cX8_mark 85 = .ok (.ireturn, 1) := by decide +kernel
theorem dX8_mark_86 : decode cX8_mark 86 = .ok (.aload 5, 2) := by decide +kernel
theorem dX8_mark_88 : decode cX8_mark 88 = .ok (.getfield 210, 3) := by decide +kernel
theorem dX8_mark_91 : decode cX8_mark 91 = .ok (.iload_n 2, 1) := by decide +kernel
theorem dX8_mark_92 : decode cX8_mark 92 = .ok (.iload_n 3, 1) := by decide +kernel
theorem dX8_mark_93 : decode cX8_mark 93 = .ok (.iastore, 1) := by decide +kernel
theorem dX8_mark_94 : decode cX8_mark 94 = .ok (.iconst 1, 1) := by decide +kernel
theorem dX8_mark_95 : decode cX8_mark 95 = .ok (.ireturn, 1) := by decide +kernel
theorem dX8_pour_0 : decode cX8_pour 0 = .ok (.aload_n 0, 1) := by decide +kernel
theorem dX8_pour_1 : decode cX8_pour 1 = .ok (.iload_n 1, 1) := by decide +kernel
theorem dX8_pour_2 : decode cX8_pour 2 = .ok (.invokevirtual 204, 3) := by decide +kernel
theorem dX8_pour_5 : decode cX8_pour 5 = .ok (.istore_n 2, 1) := by decide +kernel
theorem dX8_pour_6 : decode cX8_pour 6 = .ok (.iload_n 2, 1) := by decide +kernel
theorem dX8_pour_7 : decode cX8_pour 7 = .ok (.ifCond .eq 5, 3) := by decide +kernel
theorem dX8_pour_10 : decode cX8_pour 10 = .ok (.iload_n 2, 1) := by decide +kernel
theorem dX8_pour_11 : decode cX8_pour 11 = .ok (.ireturn, 1) := by decide +kernel
theorem dX8_pour_12 : decode cX8_pour 12 = .ok (.aload_n 0, 1) := by decide +kernel
theorem dX8_pour_13 : decode cX8_pour 13 = .ok (.getfield 38, 3) := by decide +kernel
theorem dX8_pour_16 : decode cX8_pour 16 = .ok (.iload_n 1, 1) := by decide +kernel
theorem dX8_pour_17 : decode cX8_pour 17 = .ok (.aaload, 1) := by decide +kernel
theorem dX8_pour_18 : decode cX8_pour 18 = .ok (.astore_n 3, 1) := by decide +kernel
theorem dX8_pour_19 : decode cX8_pour 19 = .ok (.iconst 0, 1) := by decide +kernel
theorem dX8_pour_20 : decode cX8_pour 20 = .ok (.istore 4, 2) := by decide +kernel
theorem dX8_pour_22 : decode cX8_pour 22 = .ok (.iconst 0, 1) := by decide +kernel
theorem dX8_pour_23 : decode cX8_pour 23 = .ok (.istore 5, 2) := by decide +kernel
theorem dX8_pour_25 : decode cX8_pour 25 = .ok (.iload 5, 2) := by decide +kernel
theorem dX8_pour_27 : decode cX8_pour 27 = .ok (.aload_n 0, 1) := by decide +kernel
theorem dX8_pour_28 : decode cX8_pour 28 = .ok (.getfield 10, 3) := by decide +kernel
theorem dX8_pour_31 : decode cX8_pour 31 = .ok (.getfield 167, 3) := by decide +kernel
theorem dX8_pour_34 : decode cX8_pour 34 = .ok (.getfield 277, 3) := by decide +kernel
theorem dX8_pour_37 : decode cX8_pour 37 = .ok (.if_icmp .ge 75, 3) := by decide +kernel
theorem dX8_pour_40 : decode cX8_pour 40 = .ok (.iload 5, 2) := by decide +kernel
theorem dX8_pour_42 : decode cX8_pour 42 = .ok (.aload_n 3, 1) := by decide +kernel
theorem dX8_pour_43 : decode cX8_pour 43 = .ok (.getfield 207, 3) := by decide +kernel
theorem dX8_pour_46 : decode cX8_pour 46 = .ok (.if_icmp .ge 66, 3) := by decide +kernel
theorem dX8_pour_49 : decode cX8_pour 49 = .ok (.aload_n 3, 1) := by decide +kernel
theorem dX8_pour_50 : decode cX8_pour 50 = .ok (.getfield 210, 3) := by decide +kernel
theorem dX8_pour_53 : decode cX8_pour 53 = .ok (.iload 5, 2) := by decide +kernel
theorem dX8_pour_55 : decode cX8_pour 55 = .ok (.iaload, 1) := by decide +kernel
theorem dX8_pour_56 : decode cX8_pour 56 = .ok (.ldc 127, 2) := by decide +kernel
theorem dX8_pour_58 : decode cX8_pour 58 = .ok (.if_icmp .eq 48, 3) := by decide +kernel
theorem dX8_pour_61 : decode cX8_pour 61 = .ok (.aload_n 3, 1) := by decide +kernel
theorem dX8_pour_62 : decode cX8_pour 62 = .ok (.getfield 210, 3) := by decide +kernel
theorem dX8_pour_65 : decode cX8_pour 65 = .ok (.iload 5, 2) := by decide +kernel
theorem dX8_pour_67 : decode cX8_pour 67 = .ok (.iaload, 1) := by decide +kernel
theorem dX8_pour_68 : decode cX8_pour 68 = .ok (.iconst 0, 1) := by decide +kernel
theorem dX8_pour_69 : decode cX8_pour 69 = .ok (.bipush 99, 2) := by decide +kernel
theorem dX8_pour_71 : decode cX8_pour 71 = .ok (.invokestatic 278, 3) := by decide +kernel
theorem dX8_pour_74 : decode cX8_pour 74 = .ok (.istore 6, 2) := by decide +kernel
theorem dX8_pour_76 : decode cX8_pour 76 = .ok (.iload 6, 2) := by decide +kernel
theorem dX8_pour_78 : decode cX8_pour 78 = .ok (.aload_n 0, 1) := by decide +kernel
theorem dX8_pour_79 : decode cX8_pour 79 = .ok (.getfield 10, 3) := by decide +kernel
theorem dX8_pour_82 : decode cX8_pour 82 = .ok (.getfield 128, 3) := by decide +kernel
theorem dX8_pour_85 : decode cX8_pour 85 = .ok (.iload 5, 2) := by decide +kernel
theorem dX8_pour_87 : decode cX8_pour 87 = .ok (.iaload, 1) := by decide +kernel
theorem dX8_pour_88 : decode cX8_pour 88 = .ok (.if_icmp .eq 18, 3) := by decide +kernel
theorem dX8_pour_91 : decode cX8_pour 91 = .ok (.aload_n 0, 1) := by decide +kernel
theorem dX8_pour_92 : decode cX8_pour 92 = .ok (.getfield 10, 3) := by decide +kernel
theorem dX8_pour_95 : decode cX8_pour 95 = .ok (.getfield 128, 3) := by decide +kernel
theorem dX8_pour_98 : decode cX8_pour 98 = .ok (.iload 5, 2) := by decide +kernel
theorem dX8_pour_100 : decode cX8_pour 100 = .ok (.iload 6, 2) := by decide +kernel
theorem dX8_pour_102 : decode cX8_pour 102 = .ok (.iastore, 1) := by decide +kernel
theorem dX8_pour_103 : decode cX8_pour 103 = .ok (.iinc 4 1, 3) := by decide +kernel
theorem dX8_pour_106 : decode cX8_pour 106 = .ok (.iinc 5 1, 3) := by decide +kernel
theorem dX8_pour_109 : decode cX8_pour 109 = .ok (.goto (-84), 3) := by decide +kernel
theorem dX8_pour_112 : decode cX8_pour 112 = .ok (.iload 4, 2) := by decide +kernel
theorem dX8_pour_114 : decode cX8_pour 114 = .ok (.ireturn, 1) := by decide +kernel
theorem dX8_reads_0 : decode cX8_reads 0 = .ok (.aload_n 0, 1) := by decide +kernel
theorem dX8_reads_1 : decode cX8_reads 1 = .ok (.iload_n 1, 1) := by decide +kernel
theorem dX8_reads_2 : decode cX8_reads 2 = .ok (.invokevirtual 204, 3) := by decide +kernel
theorem dX8_reads_5 : decode cX8_reads 5 = .ok (.istore_n 2, 1) := by decide +kernel
theorem dX8_reads_6 : decode cX8_reads 6 = .ok (.iload_n 2, 1) := by decide +kernel
theorem dX8_reads_7 : decode cX8_reads 7 = .ok (.ifCond .eq 5, 3) := by decide +kernel
theorem dX8_reads_10 : decode cX8_reads 10 = .ok (.iload_n 2, 1) := by decide +kernel
theorem dX8_reads_11 : decode cX8_reads 11 = .ok (.ireturn, 1) := by decide +kernel
theorem dX8_reads_12 : decode cX8_reads 12 = .ok (.aload_n 0, 1) := by decide +kernel
theorem dX8_reads_13 : decode cX8_reads 13 = .ok (.getfield 38, 3) := by decide +kernel
theorem dX8_reads_16 : decode cX8_reads 16 = .ok (.iload_n 1, 1) := by decide +kernel
theorem dX8_reads_17 : decode cX8_reads 17 = .ok (.aaload, 1) := by decide +kernel
theorem dX8_reads_18 : decode cX8_reads 18 = .ok (.astore_n 3, 1) := by decide +kernel
theorem dX8_reads_19 : decode cX8_reads 19 = .ok (.iconst 0, 1) := by decide +kernel
theorem dX8_reads_20 : decode cX8_reads 20 = .ok (.istore 4, 2) := by decide +kernel
theorem dX8_reads_22 : decode cX8_reads 22 = .ok (.iload 4, 2) := by decide +kernel
theorem dX8_reads_24 : decode cX8_reads 24 = .ok (.aload_n 3, 1) := by decide +kernel
theorem dX8_reads_25 : decode cX8_reads 25 = .ok (.getfield 207, 3) := by decide +kernel
theorem dX8_reads_28 : decode cX8_reads 28 = .ok (.if_icmp .ge 56, 3) := by decide +kernel
theorem dX8_reads_31 : decode cX8_reads 31 = .ok (.aload_n 3, 1) := by decide +kernel
theorem dX8_reads_32 : decode cX8_reads 32 = .ok (.getfield 210, 3) := by decide +kernel
theorem dX8_reads_35 : decode cX8_reads 35 = .ok (.iload 4, 2) := by decide +kernel
theorem dX8_reads_37 : decode cX8_reads 37 = .ok (.iaload, 1) := by decide +kernel
theorem dX8_reads_38 : decode cX8_reads 38 = .ok (.ldc 127, 2) := by decide +kernel
theorem dX8_reads_40 : decode cX8_reads 40 = .ok (.if_icmp .eq 38, 3) := by decide +kernel
theorem dX8_reads_43 : decode cX8_reads 43 = .ok (.aload_n 0, 1) := by decide +kernel
theorem dX8_reads_44 : decode cX8_reads 44 = .ok (.iload 4, 2) := by decide +kernel
theorem dX8_reads_46 : decode cX8_reads 46 = .ok (.invokevirtual 71, 3) := by decide +kernel
theorem dX8_reads_49 : decode cX8_reads 49 = .ok (.ifCond .eq 26, 3) := by decide +kernel
theorem dX8_reads_52 : decode cX8_reads 52 = .ok (.aload_n 3, 1) := by decide +kernel
theorem dX8_reads_53 : decode cX8_reads 53 = .ok (.getfield 210, 3) := by decide +kernel
theorem dX8_reads_56 : decode cX8_reads 56 = .ok (.iload 4, 2) := by decide +kernel
theorem dX8_reads_58 : decode cX8_reads 58 = .ok (.iaload, 1) := by decide +kernel
theorem dX8_reads_59 : decode cX8_reads 59 = .ok (.aload_n 0, 1) := by decide +kernel
theorem dX8_reads_60 : decode cX8_reads 60 = .ok (.getfield 10, 3) := by decide +kernel
theorem dX8_reads_63 : decode cX8_reads 63 = .ok (.getfield 74, 3) := by decide +kernel
theorem dX8_reads_66 : decode cX8_reads 66 = .ok (.iload 4, 2) := by decide +kernel
theorem dX8_reads_68 : decode cX8_reads 68 = .ok (.aaload, 1) := by decide +kernel
theorem dX8_reads_69 : decode cX8_reads 69 = .ok (.getfield 87, 3) := by decide +kernel
theorem dX8_reads_72 : decode cX8_reads 72 = .ok (.if_icmp .eq 6, 3) := by decide +kernel
theorem dX8_reads_75 : decode cX8_reads 75 = .ok (.iload 4, 2) := by decide +kernel
theorem dX8_reads_77 : decode cX8_reads 77 = .ok (.ireturn, 1) := by decide +kernel
theorem dX8_reads_78 : decode cX8_reads 78 = .ok (.iinc 4 1, 3) := by decide +kernel
theorem dX8_reads_81 : decode cX8_reads 81 = .ok (.goto (-59), 3) := by decide +kernel
theorem dX8_reads_84 : decode cX8_reads 84 = .ok (.ldc 127, 2) := by decide +kernel
theorem dX8_reads_86 : decode cX8_reads 86 = .ok (.ireturn, 1) := by decide +kernel
theorem dX8_copy_0 : decode cX8_copy 0 = .ok (.iload_n 1, 1) := by decide +kernel
theorem dX8_copy_1 : decode cX8_copy 1 = .ok (.invokestatic 260, 3) := by decide +kernel
theorem dX8_copy_4 : decode cX8_copy 4 = .ok (.ifCond .eq 10, 3) := by decide +kernel
theorem dX8_copy_7 : decode cX8_copy 7 = .ok (.iload_n 3, 1) := by decide +kernel
theorem dX8_copy_8 : decode cX8_copy 8 = .ok (.invokestatic 260, 3) := by decide +kernel
theorem dX8_copy_11 : decode cX8_copy 11 = .ok (.ifCond .ne 6, 3) := by decide +kernel
theorem dX8_copy_14 : decode cX8_copy 14 = .ok (.ldc 58, 2) := by decide +kernel
theorem dX8_copy_16 : decode cX8_copy 16 = .ok (.ireturn, 1) := by decide +kernel
theorem dX8_copy_17 : decode cX8_copy 17 = .ok (.aload_n 0, 1) := by decide +kernel
theorem dX8_copy_18 : decode cX8_copy 18 = .ok (.getfield 38, 3) := by decide +kernel
theorem dX8_copy_21 : decode cX8_copy 21 = .ok (.iload_n 1, 1) := by decide +kernel
theorem dX8_copy_22 : decode cX8_copy 22 = .ok (.aaload, 1) := by decide +kernel
theorem dX8_copy_23 : decode cX8_copy 23 = .ok (.astore 6, 2) := by decide +kernel
theorem dX8_copy_25 : decode cX8_copy 25 = .ok (.aload_n 0, 1) := by decide +kernel
theorem dX8_copy_26 : decode cX8_copy 26 = .ok (.getfield 38, 3) := by decide +kernel
theorem dX8_copy_29 : decode cX8_copy 29 = .ok (.iload_n 3, 1) := by decide +kernel
theorem dX8_copy_30 : decode cX8_copy 30 = .ok (.aaload, 1) := by decide +kernel
theorem dX8_copy_31 : decode cX8_copy 31 = .ok (.astore 7, 2) := by decide +kernel
theorem dX8_copy_33 : decode cX8_copy 33 = .ok (.aload 6, 2) := by decide +kernel
theorem dX8_copy_35 : decode cX8_copy 35 = .ok (.getfield 272, 3) := by decide +kernel
theorem dX8_copy_38 : decode cX8_copy 38 = .ok (.iconst (-1), 1) := by decide +kernel
theorem dX8_copy_39 : decode cX8_copy 39 = .ok (.if_icmp .eq 12, 3) := by decide +kernel
theorem dX8_copy_42 : decode cX8_copy 42 = .ok (.aload 7, 2) := by decide +kernel
theorem dX8_copy_44 : decode cX8_copy 44 = .ok (.getfield 272, 3) := by decide +kernel
theorem dX8_copy_47 : decode cX8_copy 47 = .ok (.iconst (-1), 1) := by decide +kernel
theorem dX8_copy_48 : decode cX8_copy 48 = .ok (.if_icmp .ne 7, 3) := by decide +kernel
theorem dX8_copy_51 : decode cX8_copy 51 = .ok (.ldc_w 281, 3) := by decide +kernel
theorem dX8_copy_54 : decode cX8_copy 54 = .ok (.ireturn, 1) := by decide +kernel
theorem dX8_copy_55 : decode cX8_copy 55 = .ok (.aload 6, 2) := by decide +kernel
theorem dX8_copy_57 : decode cX8_copy 57 = .ok (.getfield 272, 3) := by decide +kernel
theorem dX8_copy_60 : decode cX8_copy 60 = .ok (.aload 7, 2) := by decide +kernel
theorem dX8_copy_62 : decode cX8_copy 62 = .ok (.getfield 272, 3) := by decide +kernel
theorem dX8_copy_65 : decode cX8_copy 65 = .ok (.if_icmp .eq 6, 3) := by decide +kernel
theorem dX8_copy_68 : decode cX8_copy 68 = .ok (.ldc 107, 2) := by decide +kernel
theorem dX8_copy_70 : decode cX8_copy 70 = .ok (.ireturn, 1) := by decide +kernel
theorem dX8_copy_71 : decode cX8_copy 71 = .ok (.aload 6, 2) := by decide +kernel
theorem dX8_copy_73 : decode cX8_copy 73 = .ok (.iload_n 2, 1) := by decide +kernel
theorem dX8_copy_74 : decode cX8_copy 74 = .ok (.iload 5, 2) := by decide +kernel
theorem dX8_copy_76 : decode cX8_copy 76 = .ok (.invokevirtual 282, 3) := by decide +kernel
theorem dX8_copy_79 : decode cX8_copy 79 = .ok (.ifCond .eq 15, 3) := by decide +kernel
theorem dX8_copy_82 : decode cX8_copy 82 = .ok (.aload 7, 2) := by decide +kernel
theorem dX8_copy_84 : decode cX8_copy 84 = .ok (.iload 4, 2) := by decide +kernel
theorem dX8_copy_86 : decode cX8_copy 86 = .ok (.iload 5, 2) := by decide +kernel
theorem dX8_copy_88 : decode cX8_copy 88 = .ok (.invokevirtual 282, 3) := by decide +kernel
theorem dX8_copy_91 : decode cX8_copy 91 = .ok (.ifCond .ne 7, 3) := by decide +kernel
theorem dX8_copy_94 : decode cX8_copy 94 = .ok (.ldc_w 271, 3) := by decide +kernel
theorem dX8_copy_97 : decode cX8_copy 97 = .ok (.ireturn, 1) := by decide +kernel
theorem dX8_copy_98 : decode cX8_copy 98 = .ok (.aload 6, 2) := by decide +kernel
theorem dX8_copy_100 : decode cX8_copy 100 = .ok (.getfield 210, 3) := by decide +kernel
theorem dX8_copy_103 : decode cX8_copy 103 = .ok (.iload_n 2, 1) := by decide +kernel
theorem dX8_copy_104 : decode cX8_copy 104 = .ok (.aload 7, 2) := by decide +kernel
theorem dX8_copy_106 : decode cX8_copy 106 = .ok (.getfield 210, 3) := by decide +kernel
theorem dX8_copy_109 : decode cX8_copy 109 = .ok (.iload 4, 2) := by decide +kernel
theorem dX8_copy_111 : decode cX8_copy 111 = .ok (.iload 5, 2) := by decide +kernel
theorem dX8_copy_113 : decode cX8_copy 113 = .ok (.invokestatic 285, 3) := by decide +kernel
theorem dX8_copy_116 : decode cX8_copy 116 = .ok (.iload 5, 2) := by decide +kernel
theorem dX8_copy_118 : decode cX8_copy 118 = .ok (.ireturn, 1) := by decide +kernel
theorem dX8_lay_0 : decode cX8_lay 0 = .ok (.iload_n 1, 1) := by decide +kernel
theorem dX8_lay_1 : decode cX8_lay 1 = .ok (.invokestatic 291, 3) := by decide +kernel
theorem dX8_lay_4 : decode cX8_lay 4 = .ok (.ifCond .eq 12, 3) := by decide +kernel
theorem dX8_lay_7 : decode cX8_lay 7 = .ok (.iload_n 2, 1) := by decide +kernel
theorem dX8_lay_8 : decode cX8_lay 8 = .ok (.iconst 0, 1) := by decide +kernel
theorem dX8_lay_9 : decode cX8_lay 9 = .ok (.iconst 3, 1) := by decide +kernel
theorem dX8_lay_10 : decode cX8_lay 10 = .ok (.invokestatic 54, 3) := by decide +kernel
theorem dX8_lay_13 : decode cX8_lay 13 = .ok (.ifCond .ne 6, 3) := by decide +kernel
theorem dX8_lay_16 : decode cX8_lay 16 = .ok (.ldc 58, 2) := by decide +kernel
theorem dX8_lay_18 : decode cX8_lay 18 = .ok (.ireturn, 1) := by decide +kernel
theorem dX8_lay_19 : decode cX8_lay 19 = .ok (.iload_n 2, 1) := by decide +kernel
theorem dX8_lay_20 : decode cX8_lay 20 = .ok (.iconst 1, 1) := by decide +kernel
theorem dX8_lay_21 : decode cX8_lay 21 = .ok (.if_icmp .ne 14, 3) := by decide +kernel
theorem dX8_lay_24 : decode cX8_lay 24 = .ok (.aload_n 0, 1) := by decide +kernel
theorem dX8_lay_25 : decode cX8_lay 25 = .ok (.iload_n 3, 1) := by decide +kernel
theorem dX8_lay_26 : decode cX8_lay 26 = .ok (.invokevirtual 71, 3) := by decide +kernel
theorem dX8_lay_29 : decode cX8_lay 29 = .ok (.ifCond .ne 6, 3) := by decide +kernel
theorem dX8_lay_32 : decode cX8_lay 32 = .ok (.ldc 58, 2) := by decide +kernel
theorem dX8_lay_34 : decode cX8_lay 34 = .ok (.ireturn, 1) := by decide +kernel
theorem dX8_lay_35 : decode cX8_lay 35 = .ok (.iload_n 2, 1) := by decide +kernel
theorem dX8_lay_36 : decode cX8_lay 36 = .ok (.iconst 2, 1) := by decide +kernel
theorem dX8_lay_37 : decode cX8_lay 37 = .ok (.if_icmp .ne 17, 3) := by decide +kernel
theorem dX8_lay_40 : decode cX8_lay 40 = .ok (.aload_n 0, 1) := by decide +kernel
theorem dX8_lay_41 : decode cX8_lay 41 = .ok (.iload_n 3, 1) := by decide +kernel
theorem dX8_lay_42 : decode cX8_lay 42 = .ok (.invokevirtual 204, 3) := by decide +kernel
theorem dX8_lay_45 : decode cX8_lay 45 = .ok (.ifCond .eq 9, 3) := by decide +kernel
theorem dX8_lay_48 : decode cX8_lay 48 = .ok (.aload_n 0, 1) := by decide +kernel
theorem dX8_lay_49 : decode cX8_lay 49 = .ok (.iload_n 3, 1) := by decide +kernel
theorem dX8_lay_50 : decode cX8_lay 50 = .ok (.invokevirtual 204, 3) := by decide +kernel
theorem dX8_lay_53 : decode cX8_lay 53 = .ok (.ireturn, 1) := by decide +kernel
theorem dX8_lay_54 : decode cX8_lay 54 = .ok (.aload_n 0, 1) := by decide +kernel
theorem dX8_lay_55 : decode cX8_lay 55 = .ok (.getfield 44, 3) := by decide +kernel
theorem dX8_lay_58 : decode cX8_lay 58 = .ok (.iload_n 1, 1) := by decide +kernel
theorem dX8_lay_59 : decode cX8_lay 59 = .ok (.aaload, 1) := by decide +kernel
theorem dX8_lay_60 : decode cX8_lay 60 = .ok (.astore 4, 2) := by decide +kernel
theorem dX8_lay_62 : decode cX8_lay 62 = .ok (.aload 4, 2) := by decide +kernel
theorem dX8_lay_64 : decode cX8_lay 64 = .ok (.getfield 294, 3) := by decide +kernel
theorem dX8_lay_67 : decode cX8_lay 67 = .ok (.istore 5, 2) := by decide +kernel
theorem dX8_lay_69 : decode cX8_lay 69 = .ok (.aload 4, 2) := by decide +kernel
theorem dX8_lay_71 : decode cX8_lay 71 = .ok (.iload_n 2, 1) := by decide +kernel
theorem dX8_lay_72 : decode cX8_lay 72 = .ok (.putfield 294, 3) := by decide +kernel
theorem dX8_lay_75 : decode cX8_lay 75 = .ok (.iload_n 2, 1) := by decide +kernel
theorem dX8_lay_76 : decode cX8_lay 76 = .ok (.iconst 1, 1) := by decide +kernel
theorem dX8_lay_77 : decode cX8_lay 77 = .ok (.if_icmp .ne 23, 3) := by decide +kernel
theorem dX8_lay_80 : decode cX8_lay 80 = .ok (.aload 4, 2) := by decide +kernel
theorem dX8_lay_82 : decode cX8_lay 82 = .ok (.getfield 297, 3) := by decide +kernel
theorem dX8_lay_85 : decode cX8_lay 85 = .ok (.aload_n 0, 1) := by decide +kernel
theorem dX8_lay_86 : decode cX8_lay 86 = .ok (.getfield 10, 3) := by decide +kernel
theorem dX8_lay_89 : decode cX8_lay 89 = .ok (.getfield 74, 3) := by decide +kernel
theorem dX8_lay_92 : decode cX8_lay 92 = .ok (.iload_n 3, 1) := by decide +kernel
theorem dX8_lay_93 : decode cX8_lay 93 = .ok (.aaload, 1) := by decide +kernel
theorem dX8_lay_94 : decode cX8_lay 94 = .ok (.invokevirtual 301, 3) := by decide +kernel
theorem dX8_lay_97 : decode cX8_lay 97 = .ok (.goto 31, 3) := by decide +kernel
theorem dX8_lay_100 : decode cX8_lay 100 = .ok (.iload_n 2, 1) := by decide +kernel
theorem dX8_lay_101 : decode cX8_lay 101 = .ok (.iconst 2, 1) := by decide +kernel
theorem dX8_lay_102 : decode cX8_lay 102 = .ok (.if_icmp .ne 20, 3) := by decide +kernel
theorem dX8_lay_105 : decode cX8_lay 105 = .ok (.aload 4, 2) := by decide +kernel
theorem dX8_lay_107 : decode cX8_lay 107 = .ok (.getfield 304, 3) := by decide +kernel
theorem dX8_lay_110 : decode cX8_lay 110 = .ok (.aload_n 0, 1) := by decide +kernel
theorem dX8_lay_111 : decode cX8_lay 111 = .ok (.getfield 38, 3) := by decide +kernel
theorem dX8_lay_114 : decode cX8_lay 114 = .ok (.iload_n 3, 1) := by decide +kernel
theorem dX8_lay_115 : decode cX8_lay 115 = .ok (.aaload, 1) := by decide +kernel
theorem dX8_lay_116 : decode cX8_lay 116 = .ok (.invokevirtual 308, 3) := by decide +kernel
theorem dX8_lay_119 : decode cX8_lay 119 = .ok (.goto 9, 3) := by decide +kernel
theorem dX8_lay_122 : decode cX8_lay 122 = .ok (.aload 4, 2) := by decide +kernel
theorem dX8_lay_124 : decode cX8_lay 124 = .ok (.iload_n 3, 1) := by decide +kernel
theorem dX8_lay_125 : decode cX8_lay 125 = .ok (.putfield 311, 3) := by decide +kernel
theorem dX8_lay_128 : decode cX8_lay 128 = .ok (.iload 5, 2) := by decide +kernel
theorem dX8_lay_130 : decode cX8_lay 130 = .ok (.ireturn, 1) := by decide +kernel
theorem dX8_ask_0 : decode cX8_ask 0 = .ok (.iload_n 1, 1) := by decide +kernel
theorem dX8_ask_1 : decode cX8_ask 1 = .ok (.invokestatic 291, 3) := by decide +kernel
theorem dX8_ask_4 : decode cX8_ask 4 = .ok (.ifCond .eq 10, 3) := by decide +kernel
theorem dX8_ask_7 : decode cX8_ask 7 = .ok (.iload_n 2, 1) := by decide +kernel
theorem dX8_ask_8 : decode cX8_ask 8 = .ok (.invokestatic 63, 3) := by decide +kernel
theorem dX8_ask_11 : decode cX8_ask 11 = .ok (.ifCond .ne 6, 3) := by decide +kernel
theorem dX8_ask_14 : decode cX8_ask 14 = .ok (.ldc 58, 2) := by decide +kernel
theorem dX8_ask_16 : decode cX8_ask 16 = .ok (.ireturn, 1) := by decide +kernel
theorem dX8_ask_17 : decode cX8_ask 17 = .ok (.aload_n 0, 1) := by decide +kernel
theorem dX8_ask_18 : decode cX8_ask 18 = .ok (.getfield 44, 3) := by decide +kernel
theorem dX8_ask_21 : decode cX8_ask 21 = .ok (.iload_n 1, 1) := by decide +kernel
theorem dX8_ask_22 : decode cX8_ask 22 = .ok (.aaload, 1) := by decide +kernel
theorem dX8_ask_23 : decode cX8_ask 23 = .ok (.astore_n 3, 1) := by decide +kernel
theorem dX8_ask_24 : decode cX8_ask 24 = .ok (.aload_n 3, 1) := by decide +kernel
theorem dX8_ask_25 : decode cX8_ask 25 = .ok (.getfield 294, 3) := by decide +kernel
theorem dX8_ask_28 : decode cX8_ask 28 = .ok (.ifCond .ne 7, 3) := by decide +kernel
theorem dX8_ask_31 : decode cX8_ask 31 = .ok (.ldc_w 281, 3) := by decide +kernel
theorem dX8_ask_34 : decode cX8_ask 34 = .ok (.ireturn, 1) := by decide +kernel
theorem dX8_ask_35 : decode cX8_ask 35 = .ok (.aload_n 3, 1) := by decide +kernel
theorem dX8_ask_36 : decode cX8_ask 36 = .ok (.getfield 294, 3) := by decide +kernel
theorem dX8_ask_39 : decode cX8_ask 39 = .ok (.iconst 1, 1) := by decide +kernel
theorem dX8_ask_40 : decode cX8_ask 40 = .ok (.if_icmp .ne 24, 3) := by decide +kernel
theorem dX8_ask_43 : decode cX8_ask 43 = .ok (.aload_n 3, 1) := by decide +kernel
theorem dX8_ask_44 : decode cX8_ask 44 = .ok (.getfield 297, 3) := by decide +kernel
theorem dX8_ask_47 : decode cX8_ask 47 = .ok (.iload_n 2, 1) := by decide +kernel
theorem dX8_ask_48 : decode cX8_ask 48 = .ok (.invokevirtual 104, 3) := by decide +kernel
theorem dX8_ask_51 : decode cX8_ask 51 = .ok (.ifCond .eq 13, 3) := by decide +kernel
theorem dX8_ask_54 : decode cX8_ask 54 = .ok (.aload_n 3, 1) := by decide +kernel
theorem dX8_ask_55 : decode cX8_ask 55 = .ok (.getfield 297, 3) := by decide +kernel
theorem dX8_ask_58 : decode cX8_ask 58 = .ok (.invokevirtual 100, 3) := by decide +kernel
theorem dX8_ask_61 : decode cX8_ask 61 = .ok (.goto 5, 3) := by decide +kernel
theorem dX8_ask_64 : decode cX8_ask 64 = .ok (.ldc 107, 2) := by decide +kernel
theorem dX8_ask_66 : decode cX8_ask 66 = .ok (.ireturn, 1) := by decide +kernel
theorem dX8_item_0 : decode cX8_item 0 = .ok (.iload_n 1, 1) := by decide +kernel
theorem dX8_item_1 : decode cX8_item 1 = .ok (.invokestatic 291, 3) := by decide +kernel
theorem dX8_item_4 : decode cX8_item 4 = .ok (.ifCond .ne 6, 3) := by decide +kernel
theorem dX8_item_7 : decode cX8_item 7 = .ok (.ldc 58, 2) := by decide +kernel
theorem dX8_item_9 : decode cX8_item 9 = .ok (.ireturn, 1) := by decide +kernel
theorem dX8_item_10 : decode cX8_item 10 = .ok (.aload_n 0, 1) := by decide +kernel
theorem dX8_item_11 : decode cX8_item 11 = .ok (.getfield 44, 3) := by decide +kernel
theorem dX8_item_14 : decode cX8_item 14 = .ok (.iload_n 1, 1) := by decide +kernel
theorem dX8_item_15 : decode cX8_item 15 = .ok (.aaload, 1) := by decide +kernel
theorem dX8_item_16 : decode cX8_item 16 = .ok (.astore_n 3, 1) := by decide +kernel
theorem dX8_item_17 : decode cX8_item 17 = .ok (.aload_n 3, 1) := by decide +kernel
theorem dX8_item_18 : decode cX8_item 18 = .ok (.getfield 294, 3) := by decide +kernel
theorem dX8_item_21 : decode cX8_item 21 = .ok (.ifCond .ne 7, 3) := by decide +kernel
theorem dX8_item_24 : decode cX8_item 24 = .ok (.ldc_w 281, 3) := by decide +kernel
theorem dX8_item_27 : decode cX8_item 27 = .ok (.ireturn, 1) := by decide +kernel
theorem dX8_item_28 : decode cX8_item 28 = .ok (.aload_n 3, 1) := by decide +kernel
theorem dX8_item_29 : decode cX8_item 29 = .ok (.getfield 294, 3) := by decide +kernel
theorem dX8_item_32 : decode cX8_item 32 = .ok (.iconst 2, 1) := by decide +kernel
theorem dX8_item_33 : decode cX8_item 33 = .ok (.if_icmp .eq 6, 3) := by decide +kernel
theorem dX8_item_36 : decode cX8_item 36 = .ok (.ldc 107, 2) := by decide +kernel
theorem dX8_item_38 : decode cX8_item 38 = .ok (.ireturn, 1) := by decide +kernel
theorem dX8_item_39 : decode cX8_item 39 = .ok (.aload_n 3, 1) := by decide +kernel
theorem dX8_item_40 : decode cX8_item 40 = .ok (.getfield 304, 3) := by decide +kernel
theorem dX8_item_43 : decode cX8_item 43 = .ok (.iload_n 2, 1) := by decide +kernel
theorem dX8_item_44 : decode cX8_item 44 = .ok (.invokevirtual 268, 3) := by decide +kernel
theorem dX8_item_47 : decode cX8_item 47 = .ok (.ifCond .ne 7, 3) := by decide +kernel
theorem dX8_item_50 : decode cX8_item 50 = .ok (.ldc_w 271, 3) := by decide +kernel
theorem dX8_item_53 : decode cX8_item 53 = .ok (.ireturn, 1) := by decide +kernel
theorem dX8_item_54 : decode cX8_item 54 = .ok (.aload_n 3, 1) := by decide +kernel
theorem dX8_item_55 : decode cX8_item 55 = .ok (.getfield 304, 3) := by decide +kernel
theorem dX8_item_58 : decode cX8_item 58 = .ok (.getfield 210, 3) := by decide +kernel
theorem dX8_item_61 : decode cX8_item 61 = .ok (.iload_n 2, 1) := by decide +kernel
theorem dX8_item_62 : decode cX8_item 62 = .ok (.iaload, 1) := by decide +kernel
theorem dX8_item_63 : decode cX8_item 63 = .ok (.istore 4, 2) := by decide +kernel
theorem dX8_item_65 : decode cX8_item 65 = .ok (.iload 4, 2) := by decide +kernel
theorem dX8_item_67 : decode cX8_item 67 = .ok (.ldc 127, 2) := by decide +kernel
theorem dX8_item_69 : decode cX8_item 69 = .ok (.if_icmp .ne 8, 3) := by decide +kernel
theorem dX8_item_72 : decode cX8_item 72 = .ok (.ldc 107, 2) := by decide +kernel
theorem dX8_item_74 : decode cX8_item 74 = .ok (.goto 5, 3) := by decide +kernel
theorem dX8_item_77 : decode cX8_item 77 = .ok (.iload 4, 2) := by decide +kernel
theorem dX8_item_79 : decode cX8_item 79 = .ok (.ireturn, 1) := by decide +kernel
theorem dX8_rest_0 : decode cX8_rest 0 = .ok (.iload_n 1, 1) := by decide +kernel
theorem dX8_rest_1 : decode cX8_rest 1 = .ok (.invokestatic 291, 3) := by decide +kernel
theorem dX8_rest_4 : decode cX8_rest 4 = .ok (.ifCond .ne 6, 3) := by decide +kernel
theorem dX8_rest_7 : decode cX8_rest 7 = .ok (.ldc 58, 2) := by decide +kernel
theorem dX8_rest_9 : decode cX8_rest 9 = .ok (.ireturn, 1) := by decide +kernel
theorem dX8_rest_10 : decode cX8_rest 10 = .ok (.aload_n 0, 1) := by decide +kernel
theorem dX8_rest_11 : decode cX8_rest 11 = .ok (.getfield 44, 3) := by decide +kernel
theorem dX8_rest_14 : decode cX8_rest 14 = .ok (.iload_n 1, 1) := by decide +kernel
theorem dX8_rest_15 : decode cX8_rest 15 = .ok (.aaload, 1) := by decide +kernel
theorem dX8_rest_16 : decode cX8_rest 16 = .ok (.astore_n 3, 1) := by decide +kernel
theorem dX8_rest_17 : decode cX8_rest 17 = .ok (.aload_n 3, 1) := by decide +kernel
theorem dX8_rest_18 : decode cX8_rest 18 = .ok (.getfield 294, 3) := by decide +kernel
theorem dX8_rest_21 : decode cX8_rest 21 = .ok (.ifCond .ne 7, 3) := by decide +kernel
theorem dX8_rest_24 : decode cX8_rest 24 = .ok (.ldc_w 281, 3) := by decide +kernel
theorem dX8_rest_27 : decode cX8_rest 27 = .ok (.ireturn, 1) := by decide +kernel
theorem dX8_rest_28 : decode cX8_rest 28 = .ok (.aload_n 3, 1) := by decide +kernel
theorem dX8_rest_29 : decode cX8_rest 29 = .ok (.getfield 294, 3) := by decide +kernel
theorem dX8_rest_32 : decode cX8_rest 32 = .ok (.iconst 3, 1) := by decide +kernel
theorem dX8_rest_33 : decode cX8_rest 33 = .ok (.if_icmp .eq 6, 3) := by decide +kernel
theorem dX8_rest_36 : decode cX8_rest 36 = .ok (.ldc 107, 2) := by decide +kernel
theorem dX8_rest_38 : decode cX8_rest 38 = .ok (.ireturn, 1) := by decide +kernel
theorem dX8_rest_39 : decode cX8_rest 39 = .ok (.iload_n 2, 1) := by decide +kernel
theorem dX8_rest_40 : decode cX8_rest 40 = .ok (.ifCond .ne 8, 3) := by decide +kernel
theorem dX8_rest_43 : decode cX8_rest 43 = .ok (.ldc 112, 2) := by decide +kernel
theorem dX8_rest_45 : decode cX8_rest 45 = .ok (.goto 9, 3) := by decide +kernel
theorem dX8_rest_48 : decode cX8_rest 48 = .ok (.aload_n 3, 1) := by decide +kernel
theorem dX8_rest_49 : decode cX8_rest 49 = .ok (.getfield 311, 3) := by decide +kernel
theorem dX8_rest_52 : decode cX8_rest 52 = .ok (.iload_n 2, 1) := by decide +kernel
theorem dX8_rest_53 : decode cX8_rest 53 = .ok (.irem, 1) := by decide +kernel
theorem dX8_rest_54 : decode cX8_rest 54 = .ok (.ireturn, 1) := by decide +kernel
theorem dX8_tell_0 : decode cX8_tell 0 = .ok (.aload_n 0, 1) := by decide +kernel
theorem dX8_tell_1 : decode cX8_tell 1 = .ok (.getfield 314, 3) := by decide +kernel
theorem dX8_tell_4 : decode cX8_tell 4 = .ok (.bipush 60, 2) := by decide +kernel
theorem dX8_tell_6 : decode cX8_tell 6 = .ok (.if_icmp .lt 6, 3) := by decide +kernel
theorem dX8_tell_9 : decode cX8_tell 9 = .ok (.ldc 228, 2) := by decide +kernel
theorem dX8_tell_11 : decode cX8_tell 11 = .ok (.ireturn, 1) := by decide +kernel
theorem dX8_tell_12 : decode cX8_tell 12 = .ok (.aload_n 0, 1) := by decide +kernel
theorem dX8_tell_13 : decode cX8_tell 13 = .ok (.getfield 48, 3) := by decide +kernel
theorem dX8_tell_16 : decode cX8_tell 16 = .ok (.aload_n 0, 1) := by decide +kernel
theorem dX8_tell_17 : decode cX8_tell 17 = .ok (.getfield 314, 3) := by decide +kernel
theorem dX8_tell_20 : decode cX8_tell 20 = .ok (.iload_n 1, 1) := by decide +kernel
theorem dX8_tell_21 : decode cX8_tell 21 = .ok (.iastore, 1) := by decide +kernel
theorem dX8_tell_22 : decode cX8_tell 22 = .ok (.aload_n 0, 1) := by decide +kernel
theorem dX8_tell_23 : decode cX8_tell 23 = .ok (.dup, 1) := by decide +kernel
theorem dX8_tell_24 : decode cX8_tell 24 = .ok (.getfield 314, 3) := by decide +kernel
theorem dX8_tell_27 : decode cX8_tell 27 = .ok (.iconst 1, 1) := by decide +kernel
theorem dX8_tell_28 : decode cX8_tell 28 = .ok (.iadd, 1) := by decide +kernel
theorem dX8_tell_29 : decode cX8_tell 29 = .ok (.putfield 314, 3) := by decide +kernel
theorem dX8_tell_32 : decode cX8_tell 32 = .ok (.aload_n 0, 1) := by decide +kernel
theorem dX8_tell_33 : decode cX8_tell 33 = .ok (.getfield 314, 3) := by decide +kernel
theorem dX8_tell_36 : decode cX8_tell 36 = .ok (.ireturn, 1) := by decide +kernel
theorem dX8_check_0 : decode cX8_check 0 = .ok (.aload_n 0, 1) := by decide +kernel
theorem dX8_check_1 : decode cX8_check 1 = .ok (.getfield 314, 3) := by decide +kernel
theorem dX8_check_4 : decode cX8_check 4 = .ok (.istore_n 2, 1) := by decide +kernel
theorem dX8_check_5 : decode cX8_check 5 = .ok (.aload_n 0, 1) := by decide +kernel
theorem dX8_check_6 : decode cX8_check 6 = .ok (.iconst 0, 1) := by decide +kernel
theorem dX8_check_7 : decode cX8_check 7 = .ok (.putfield 314, 3) := by decide +kernel
theorem dX8_check_10 : decode cX8_check 10 = .ok (.iload_n 1, 1) := by decide +kernel
theorem dX8_check_11 : decode cX8_check 11 = .ok (.iconst 1, 1) := by decide +kernel
theorem dX8_check_12 : decode cX8_check 12 = .ok (.bipush 30, 2) := by decide +kernel
theorem dX8_check_14 : decode cX8_check 14 = .ok (.invokestatic 54, 3) := by decide +kernel
theorem dX8_check_17 : decode cX8_check 17 = .ok (.ifCond .ne 6, 3) := by decide +kernel
theorem dX8_check_20 : decode cX8_check 20 = .ok (.ldc 58, 2) := by decide +kernel
theorem dX8_check_22 : decode cX8_check 22 = .ok (.ireturn, 1) := by decide +kernel
theorem dX8_check_23 : decode cX8_check 23 = .ok (.aload_n 0, 1) := by decide +kernel
theorem dX8_check_24 : decode cX8_check 24 = .ok (.getfield 317, 3) := by decide +kernel
theorem dX8_check_27 : decode cX8_check 27 = .ok (.ifCond .eq 26, 3) := by decide +kernel
theorem dX8_check_30 : decode cX8_check 30 = .ok (.aload_n 0, 1) := by decide +kernel
theorem dX8_check_31 : decode cX8_check 31 = .ok (.iload_n 2, 1) := by decide +kernel
theorem dX8_check_32 : decode cX8_check 32 = .ok (.iload_n 1, 1) := by decide +kernel
theorem dX8_check_33 : decode cX8_check 33 = .ok (.sipush 9999, 3) := by decide +kernel
theorem dX8_check_36 : decode cX8_check 36 = .ok (.aload_n 0, 1) := by decide +kernel
theorem dX8_check_37 : decode cX8_check 37 = .ok (.getfield 16, 3) := by decide +kernel
theorem dX8_check_40 : decode cX8_check 40 = .ok (.getfield 149, 3) := by decide +kernel
theorem dX8_check_43 : decode cX8_check 43 = .ok (.isub, 1) := by decide +kernel
theorem dX8_check_44 : decode cX8_check 44 = .ok (.invokestatic 137, 3) := by decide +kernel
theorem dX8_check_47 : decode cX8_check 47 = .ok (.invokevirtual 321, 3) := by decide +kernel
theorem dX8_check_50 : decode cX8_check 50 = .ok (.goto 5, 3) := by decide +kernel
theorem dX8_check_53 : decode cX8_check 53 = .ok (.ldc 112, 2) := by decide +kernel
theorem dX8_check_55 : decode cX8_check 55 = .ok (.ireturn, 1) := by decide +kernel
theorem dX8_keep_0 : decode cX8_keep 0 = .ok (.aload_n 0, 1) := by decide +kernel
theorem dX8_keep_1 : decode cX8_keep 1 = .ok (.getfield 16, 3) := by decide +kernel
theorem dX8_keep_4 : decode cX8_keep 4 = .ok (.aload_n 0, 1) := by decide +kernel
theorem dX8_keep_5 : decode cX8_keep 5 = .ok (.getfield 10, 3) := by decide +kernel
theorem dX8_keep_8 : decode cX8_keep 8 = .ok (.invokevirtual 194, 3) := by decide +kernel
theorem dX8_keep_11 : decode cX8_keep 11 = .ok (.aload_n 0, 1) := by decide +kernel
theorem dX8_keep_12 : decode cX8_keep 12 = .ok (.iconst 1, 1) := by decide +kernel
theorem dX8_keep_13 : decode cX8_keep 13 = .ok (.putfield 317, 3) := by decide +kernel
theorem dX8_keep_16 : decode cX8_keep 16 = .ok (.aload_n 0, 1) := by decide +kernel
theorem dX8_keep_17 : decode cX8_keep 17 = .ok (.getfield 16, 3) := by decide +kernel
theorem dX8_keep_20 : decode cX8_keep 20 = .ok (.getfield 124, 3) := by decide +kernel
theorem dX8_keep_23 : decode cX8_keep 23 = .ok (.ireturn, 1) := by decide +kernel
theorem dX8_back_0 : decode cX8_back 0 = .ok (.aload_n 0, 1) := by decide +kernel
theorem dX8_back_1 : decode cX8_back 1 = .ok (.getfield 317, 3) := by decide +kernel
theorem dX8_back_4 : decode cX8_back 4 = .ok (.ifCond .ne 6, 3) := by decide +kernel
theorem dX8_back_7 : decode cX8_back 7 = .ok (.ldc 112, 2) := by decide +kernel
theorem dX8_back_9 : decode cX8_back 9 = .ok (.ireturn, 1) := by decide +kernel
theorem dX8_back_10 : decode cX8_back 10 = .ok (.aload_n 0, 1) := by decide +kernel
theorem dX8_back_11 : decode cX8_back 11 = .ok (.getfield 10, 3) := by decide +kernel
theorem dX8_back_14 : decode cX8_back 14 = .ok (.aload_n 0, 1) := by decide +kernel
theorem dX8_back_15 : decode cX8_back 15 = .ok (.getfield 16, 3) := by decide +kernel
theorem dX8_back_18 : decode cX8_back 18 = .ok (.invokevirtual 194, 3) := by decide +kernel
theorem dX8_back_21 : decode cX8_back 21 = .ok (.aload_n 0, 1) := by decide +kernel
theorem dX8_back_22 : decode cX8_back 22 = .ok (.getfield 10, 3) := by decide +kernel
theorem dX8_back_25 : decode cX8_back 25 = .ok (.getfield 124, 3) := by decide +kernel
theorem dX8_back_28 : decode cX8_back 28 = .ok (.ireturn, 1) := by decide +kernel
theorem dX8_count_0 : decode cX8_count 0 = .ok (.iload_n 1, 1) := by decide +kernel
theorem dX8_count_1 : decode cX8_count 1 = .ok (.tableswitch 185 0 12 #[67, 75, 86, 97, 108, 116, 126, 136, 146, 156, 164, 169, 177], 67) := by decide +kernel
theorem dX8_count_68 : decode cX8_count 68 = .ok (.aload_n 0, 1) := by decide +kernel
theorem dX8_count_69 : decode cX8_count 69 = .ok (.getfield 10, 3) := by decide +kernel
theorem dX8_count_72 : decode cX8_count 72 = .ok (.getfield 124, 3) := by decide +kernel
theorem dX8_count_75 : decode cX8_count 75 = .ok (.ireturn, 1) := by decide +kernel
theorem dX8_count_76 : decode cX8_count 76 = .ok (.aload_n 0, 1) := by decide +kernel
theorem dX8_count_77 : decode cX8_count 77 = .ok (.getfield 10, 3) := by decide +kernel
theorem dX8_count_80 : decode cX8_count 80 = .ok (.getfield 167, 3) := by decide +kernel
theorem dX8_count_83 : decode cX8_count 83 = .ok (.getfield 277, 3) := by decide +kernel
theorem dX8_count_86 : decode cX8_count 86 = .ok (.ireturn, 1) := by decide +kernel
theorem dX8_count_87 : decode cX8_count 87 = .ok (.aload_n 0, 1) := by decide +kernel
theorem dX8_count_88 : decode cX8_count 88 = .ok (.getfield 10, 3) := by decide +kernel
theorem dX8_count_91 : decode cX8_count 91 = .ok (.getfield 167, 3) := by decide +kernel
theorem dX8_count_94 : decode cX8_count 94 = .ok (.getfield 324, 3) := by decide +kernel
theorem dX8_count_97 : decode cX8_count 97 = .ok (.ireturn, 1) := by decide +kernel
theorem dX8_count_98 : decode cX8_count 98 = .ok (.aload_n 0, 1) := by decide +kernel
theorem dX8_count_99 : decode cX8_count 99 = .ok (.getfield 10, 3) := by decide +kernel
theorem dX8_count_102 : decode cX8_count 102 = .ok (.getfield 167, 3) := by decide +kernel
theorem dX8_count_105 : decode cX8_count 105 = .ok (.getfield 327, 3) := by decide +kernel
theorem dX8_count_108 : decode cX8_count 108 = .ok (.ireturn, 1) := by decide +kernel
theorem dX8_count_109 : decode cX8_count 109 = .ok (.aload_n 0, 1) := by decide +kernel
theorem dX8_count_110 : decode cX8_count 110 = .ok (.getfield 10, 3) := by decide +kernel
theorem dX8_count_113 : decode cX8_count 113 = .ok (.getfield 149, 3) := by decide +kernel
theorem dX8_count_116 : decode cX8_count 116 = .ok (.ireturn, 1) := by decide +kernel
theorem dX8_count_117 : decode cX8_count 117 = .ok (.aload_n 0, 1) := by decide +kernel
theorem dX8_count_118 : decode cX8_count 118 = .ok (.getfield 10, 3) := by decide +kernel
theorem dX8_count_121 : decode cX8_count 121 = .ok (.getfield 134, 3) := by decide +kernel
theorem dX8_count_124 : decode cX8_count 124 = .ok (.iconst 0, 1) := by decide +kernel
theorem dX8_count_125 : decode cX8_count 125 = .ok (.iaload, 1) := by decide +kernel
theorem dX8_count_126 : decode cX8_count 126 = .ok (.ireturn, 1) := by decide +kernel
theorem dX8_count_127 : decode cX8_count 127 = .ok (.aload_n 0, 1) := by decide +kernel
theorem dX8_count_128 : decode cX8_count 128 = .ok (.getfield 10, 3) := by decide +kernel
theorem dX8_count_131 : decode cX8_count 131 = .ok (.getfield 134, 3) := by decide +kernel
theorem dX8_count_134 : decode cX8_count 134 = .ok (.iconst 1, 1) := by decide +kernel
theorem dX8_count_135 : decode cX8_count 135 = .ok (.iaload, 1) := by decide +kernel
theorem dX8_count_136 : decode cX8_count 136 = .ok (.ireturn, 1) := by decide +kernel
theorem dX8_count_137 : decode cX8_count 137 = .ok (.aload_n 0, 1) := by decide +kernel
theorem dX8_count_138 : decode cX8_count 138 = .ok (.getfield 10, 3) := by decide +kernel
theorem dX8_count_141 : decode cX8_count 141 = .ok (.getfield 134, 3) := by decide +kernel
theorem dX8_count_144 : decode cX8_count 144 = .ok (.iconst 2, 1) := by decide +kernel
theorem dX8_count_145 : decode cX8_count 145 = .ok (.iaload, 1) := by decide +kernel
theorem dX8_count_146 : decode cX8_count 146 = .ok (.ireturn, 1) := by decide +kernel
theorem dX8_count_147 : decode cX8_count 147 = .ok (.aload_n 0, 1) := by decide +kernel
theorem dX8_count_148 : decode cX8_count 148 = .ok (.getfield 10, 3) := by decide +kernel
theorem dX8_count_151 : decode cX8_count 151 = .ok (.getfield 134, 3) := by decide +kernel
theorem dX8_count_154 : decode cX8_count 154 = .ok (.iconst 3, 1) := by decide +kernel
theorem dX8_count_155 : decode cX8_count 155 = .ok (.iaload, 1) := by decide +kernel
theorem dX8_count_156 : decode cX8_count 156 = .ok (.ireturn, 1) := by decide +kernel
theorem dX8_count_157 : decode cX8_count 157 = .ok (.aload_n 0, 1) := by decide +kernel
theorem dX8_count_158 : decode cX8_count 158 = .ok (.getfield 10, 3) := by decide +kernel
theorem dX8_count_161 : decode cX8_count 161 = .ok (.getfield 244, 3) := by decide +kernel
theorem dX8_count_164 : decode cX8_count 164 = .ok (.ireturn, 1) := by decide +kernel
theorem dX8_count_165 : decode cX8_count 165 = .ok (.aload_n 0, 1) := by decide +kernel
theorem dX8_count_166 : decode cX8_count 166 = .ok (.getfield 314, 3) := by decide +kernel
theorem dX8_count_169 : decode cX8_count 169 = .ok (.ireturn, 1) := by decide +kernel
theorem dX8_count_170 : decode cX8_count 170 = .ok (.aload_n 0, 1) := by decide +kernel
theorem dX8_count_171 : decode cX8_count 171 = .ok (.getfield 32, 3) := by decide +kernel
theorem dX8_count_174 : decode cX8_count 174 = .ok (.getfield 225, 3) := by decide +kernel
theorem dX8_count_177 : decode cX8_count 177 = .ok (.ireturn, 1) := by decide +kernel
theorem dX8_count_178 : decode cX8_count 178 = .ok (.aload_n 0, 1) := by decide +kernel
theorem dX8_count_179 : decode cX8_count 179 = .ok (.getfield 10, 3) := by decide +kernel
theorem dX8_count_182 : decode cX8_count 182 = .ok (.getfield 146, 3) := by decide +kernel
theorem dX8_count_185 : decode cX8_count 185 = .ok (.ireturn, 1) := by decide +kernel
theorem dX8_count_186 : decode cX8_count 186 = .ok (.ldc 58, 2) := by decide +kernel
theorem dX8_count_188 : decode cX8_count 188 = .ok (.ireturn, 1) := by decide +kernel
theorem dX8_compare_0 : decode cX8_compare 0 = .ok (.aload_n 0, 1) := by decide +kernel
theorem dX8_compare_1 : decode cX8_compare 1 = .ok (.getfield 19, 3) := by decide +kernel
theorem dX8_compare_4 : decode cX8_compare 4 = .ok (.aload_n 0, 1) := by decide +kernel
theorem dX8_compare_5 : decode cX8_compare 5 = .ok (.getfield 16, 3) := by decide +kernel
theorem dX8_compare_8 : decode cX8_compare 8 = .ok (.invokevirtual 194, 3) := by decide +kernel
theorem dX8_compare_11 : decode cX8_compare 11 = .ok (.iconst 0, 1) := by decide +kernel
theorem dX8_compare_12 : decode cX8_compare 12 = .ok (.istore_n 3, 1) := by decide +kernel
theorem dX8_compare_13 : decode cX8_compare 13 = .ok (.iconst 0, 1) := by decide +kernel
theorem dX8_compare_14 : decode cX8_compare 14 = .ok (.istore 4, 2) := by decide +kernel
theorem dX8_compare_16 : decode cX8_compare 16 = .ok (.iload 4, 2) := by decide +kernel
theorem dX8_compare_18 : decode cX8_compare 18 = .ok (.iload_n 2, 1) := by decide +kernel
theorem dX8_compare_19 : decode cX8_compare 19 = .ok (.if_icmp .ge 73, 3) := by decide +kernel
theorem dX8_compare_22 : decode cX8_compare 22 = .ok (.aload_n 0, 1) := by decide +kernel
theorem dX8_compare_23 : decode cX8_compare 23 = .ok (.getfield 19, 3) := by decide +kernel
theorem dX8_compare_26 : decode cX8_compare 26 = .ok (.invokevirtual 201, 3) := by decide +kernel
theorem dX8_compare_29 : decode cX8_compare 29 = .ok (.pop, 1) := by decide +kernel
theorem dX8_compare_30 : decode cX8_compare 30 = .ok (.iload_n 3, 1) := by decide +kernel
theorem dX8_compare_31 : decode cX8_compare 31 = .ok (.iload_n 1, 1) := by decide +kernel
theorem dX8_compare_32 : decode cX8_compare 32 = .ok (.if_icmp .ge 19, 3) := by decide +kernel
theorem dX8_compare_35 : decode cX8_compare 35 = .ok (.aload_n 0, 1) := by decide +kernel
theorem dX8_compare_36 : decode cX8_compare 36 = .ok (.getfield 48, 3) := by decide +kernel
theorem dX8_compare_39 : decode cX8_compare 39 = .ok (.iload_n 3, 1) := by decide +kernel
theorem dX8_compare_40 : decode cX8_compare 40 = .ok (.iaload, 1) := by decide +kernel
theorem dX8_compare_41 : decode cX8_compare 41 = .ok (.aload_n 0, 1) := by decide +kernel
theorem dX8_compare_42 : decode cX8_compare 42 = .ok (.getfield 19, 3) := by decide +kernel
theorem dX8_compare_45 : decode cX8_compare 45 = .ok (.invokevirtual 155, 3) := by decide +kernel
theorem dX8_compare_48 : decode cX8_compare 48 = .ok (.if_icmp .eq 7, 3) := by decide +kernel
theorem dX8_compare_51 : decode cX8_compare 51 = .ok (.iconst 1, 1) := by decide +kernel
theorem dX8_compare_52 : decode cX8_compare 52 = .ok (.iload_n 3, 1) := by decide +kernel
theorem dX8_compare_53 : decode cX8_compare 53 = .ok (.iadd, 1) := by decide +kernel
theorem dX8_compare_54 : decode cX8_compare 54 = .ok (.ireturn, 1) := by decide +kernel
theorem dX8_compare_55 : decode cX8_compare 55 = .ok (.iinc 3 1, 3) := by decide +kernel
theorem dX8_compare_58 : decode cX8_compare 58 = .ok (.iload_n 3, 1) := by decide +kernel
theorem dX8_compare_59 : decode cX8_compare 59 = .ok (.iload_n 1, 1) := by decide +kernel
theorem dX8_compare_60 : decode cX8_compare 60 = .ok (.if_icmp .ge 19, 3) := by decide +kernel
theorem dX8_compare_63 : decode cX8_compare 63 = .ok (.aload_n 0, 1) := by decide +kernel
theorem dX8_compare_64 : decode cX8_compare 64 = .ok (.getfield 48, 3) := by decide +kernel
theorem dX8_compare_67 : decode cX8_compare 67 = .ok (.iload_n 3, 1) := by decide +kernel
theorem dX8_compare_68 : decode cX8_compare 68 = .ok (.iaload, 1) := by decide +kernel
theorem dX8_compare_69 : decode cX8_compare 69 = .ok (.aload_n 0, 1) := by decide +kernel
theorem dX8_compare_70 : decode cX8_compare 70 = .ok (.getfield 19, 3) := by decide +kernel
theorem dX8_compare_73 : decode cX8_compare 73 = .ok (.getfield 158, 3) := by decide +kernel
theorem dX8_compare_76 : decode cX8_compare 76 = .ok (.if_icmp .eq 7, 3) := by decide +kernel
theorem dX8_compare_79 : decode cX8_compare 79 = .ok (.iconst 1, 1) := by decide +kernel
theorem dX8_compare_80 : decode cX8_compare 80 = .ok (.iload_n 3, 1) := by decide +kernel
theorem dX8_compare_81 : decode cX8_compare 81 = .ok (.iadd, 1) := by decide +kernel
theorem dX8_compare_82 : decode cX8_compare 82 = .ok (.ireturn, 1) := by decide +kernel
theorem dX8_compare_83 : decode cX8_compare 83 = .ok (.iinc 3 1, 3) := by decide +kernel
theorem dX8_compare_86 : decode cX8_compare 86 = .ok (.iinc 4 1, 3) := by decide +kernel
theorem dX8_compare_89 : decode cX8_compare 89 = .ok (.goto (-73), 3) := by decide +kernel
theorem dX8_compare_92 : decode cX8_compare 92 = .ok (.iload_n 3, 1) := by decide +kernel
theorem dX8_compare_93 : decode cX8_compare 93 = .ok (.iload_n 1, 1) := by decide +kernel
theorem dX8_compare_94 : decode cX8_compare 94 = .ok (.if_icmp .ge 9, 3) := by decide +kernel
theorem dX8_compare_97 : decode cX8_compare 97 = .ok (.iconst 1, 1) := by decide +kernel
theorem dX8_compare_98 : decode cX8_compare 98 = .ok (.iload_n 3, 1) := by decide +kernel
theorem dX8_compare_99 : decode cX8_compare 99 = .ok (.iadd, 1) := by decide +kernel
theorem dX8_compare_100 : decode cX8_compare 100 = .ok (.goto 4, 3) := by decide +kernel
theorem dX8_compare_103 : decode cX8_compare 103 = .ok (.iconst 0, 1) := by decide +kernel
theorem dX8_compare_104 : decode cX8_compare 104 = .ok (.ireturn, 1) := by decide +kernel
theorem dX8_refusalOf_0 : decode cX8_refusalOf 0 = .ok (.iload_n 1, 1) := by decide +kernel
theorem dX8_refusalOf_1 : decode cX8_refusalOf 1 = .ok (.invokestatic 260, 3) := by decide +kernel
theorem dX8_refusalOf_4 : decode cX8_refusalOf 4 = .ok (.ifCond .ne 6, 3) := by decide +kernel
theorem dX8_refusalOf_7 : decode cX8_refusalOf 7 = .ok (.ldc 58, 2) := by decide +kernel
theorem dX8_refusalOf_9 : decode cX8_refusalOf 9 = .ok (.ireturn, 1) := by decide +kernel
theorem dX8_refusalOf_10 : decode cX8_refusalOf 10 = .ok (.aload_n 0, 1) := by decide +kernel
theorem dX8_refusalOf_11 : decode cX8_refusalOf 11 = .ok (.getfield 38, 3) := by decide +kernel
theorem dX8_refusalOf_14 : decode cX8_refusalOf 14 = .ok (.iload_n 1, 1) := by decide +kernel
theorem dX8_refusalOf_15 : decode cX8_refusalOf 15 = .ok (.aaload, 1) := by decide +kernel
theorem dX8_refusalOf_16 : decode cX8_refusalOf 16 = .ok (.getfield 272, 3) := by decide +kernel
theorem dX8_refusalOf_19 : decode cX8_refusalOf 19 = .ok (.iconst (-1), 1) := by decide +kernel
theorem dX8_refusalOf_20 : decode cX8_refusalOf 20 = .ok (.if_icmp .ne 9, 3) := by decide +kernel
theorem dX8_refusalOf_23 : decode cX8_refusalOf 23 = .ok (.ldc_w 281, 3) := by decide +kernel
theorem dX8_refusalOf_26 : decode cX8_refusalOf 26 = .ok (.goto 4, 3) := by decide +kernel
theorem dX8_refusalOf_29 : decode cX8_refusalOf 29 = .ok (.iconst 0, 1) := by decide +kernel
theorem dX8_refusalOf_30 : decode cX8_refusalOf 30 = .ok (.ireturn, 1) := by decide +kernel
theorem dX8_isSitter_0 : decode cX8_isSitter 0 = .ok (.iload_n 1, 1) := by decide +kernel
theorem dX8_isSitter_1 : decode cX8_isSitter 1 = .ok (.iconst 0, 1) := by decide +kernel
theorem dX8_isSitter_2 : decode cX8_isSitter 2 = .ok (.aload_n 0, 1) := by decide +kernel
theorem dX8_isSitter_3 : decode cX8_isSitter 3 = .ok (.getfield 10, 3) := by decide +kernel
theorem dX8_isSitter_6 : decode cX8_isSitter 6 = .ok (.getfield 124, 3) := by decide +kernel
theorem dX8_isSitter_9 : decode cX8_isSitter 9 = .ok (.iconst 1, 1) := by decide +kernel
theorem dX8_isSitter_10 : decode cX8_isSitter 10 = .ok (.isub, 1) := by decide +kernel
theorem dX8_isSitter_11 : decode cX8_isSitter 11 = .ok (.invokestatic 54, 3) := by decide +kernel
theorem dX8_isSitter_14 : decode cX8_isSitter 14 = .ok (.ireturn, 1) := by decide +kernel
theorem dX8_isPlace_0 : decode cX8_isPlace 0 = .ok (.iload_n 1, 1) := by decide +kernel
theorem dX8_isPlace_1 : decode cX8_isPlace 1 = .ok (.iconst 0, 1) := by decide +kernel
theorem dX8_isPlace_2 : decode cX8_isPlace 2 = .ok (.aload_n 0, 1) := by decide +kernel
theorem dX8_isPlace_3 : decode cX8_isPlace 3 = .ok (.getfield 10, 3) := by decide +kernel
theorem dX8_isPlace_6 : decode cX8_isPlace 6 = .ok (.getfield 167, 3) := by decide +kernel
theorem dX8_isPlace_9 : decode cX8_isPlace 9 = .ok (.getfield 277, 3) := by decide +kernel
theorem dX8_isPlace_12 : decode cX8_isPlace 12 = .ok (.iconst 1, 1) := by decide +kernel
theorem dX8_isPlace_13 : decode cX8_isPlace 13 = .ok (.isub, 1) := by decide +kernel
theorem dX8_isPlace_14 : decode cX8_isPlace 14 = .ok (.invokestatic 54, 3) := by decide +kernel
theorem dX8_isPlace_17 : decode cX8_isPlace 17 = .ok (.ireturn, 1) := by decide +kernel
theorem dX8_isKind_0 : decode cX8_isKind 0 = .ok (.iload_n 0, 1) := by decide +kernel
theorem dX8_isKind_1 : decode cX8_isKind 1 = .ok (.iconst 0, 1) := by decide +kernel
theorem dX8_isKind_2 : decode cX8_isKind 2 = .ok (.iconst 5, 1) := by decide +kernel
theorem dX8_isKind_3 : decode cX8_isKind 3 = .ok (.invokestatic 54, 3) := by decide +kernel
theorem dX8_isKind_6 : decode cX8_isKind 6 = .ok (.ireturn, 1) := by decide +kernel
theorem dX8_isSheet_0 : decode cX8_isSheet 0 = .ok (.iload_n 0, 1) := by decide +kernel
theorem dX8_isSheet_1 : decode cX8_isSheet 1 = .ok (.iconst 0, 1) := by decide +kernel
theorem dX8_isSheet_2 : decode cX8_isSheet 2 = .ok (.iconst 3, 1) := by decide +kernel
theorem dX8_isSheet_3 : decode cX8_isSheet 3 = .ok (.invokestatic 54, 3) := by decide +kernel
theorem dX8_isSheet_6 : decode cX8_isSheet 6 = .ok (.ireturn, 1) := by decide +kernel
theorem dX8_isSlot_0 : decode cX8_isSlot 0 = .ok (.iload_n 0, 1) := by decide +kernel
theorem dX8_isSlot_1 : decode cX8_isSlot 1 = .ok (.iconst 0, 1) := by decide +kernel
theorem dX8_isSlot_2 : decode cX8_isSlot 2 = .ok (.iconst 4, 1) := by decide +kernel
theorem dX8_isSlot_3 : decode cX8_isSlot 3 = .ok (.invokestatic 54, 3) := by decide +kernel
theorem dX8_isSlot_6 : decode cX8_isSlot 6 = .ok (.ireturn, 1) := by decide +kernel
theorem dX8_isWithin_0 : decode cX8_isWithin 0 = .ok (.iload_n 1, 1) := by decide +kernel
theorem dX8_isWithin_1 : decode cX8_isWithin 1 = .ok (.iload_n 0, 1) := by decide +kernel
theorem dX8_isWithin_2 : decode cX8_isWithin 2 = .ok (.if_icmp .gt 12, 3) := by decide +kernel
theorem dX8_isWithin_5 : decode cX8_isWithin 5 = .ok (.iload_n 0, 1) := by decide +kernel
theorem dX8_isWithin_6 : decode cX8_isWithin 6 = .ok (.iload_n 2, 1) := by decide +kernel
theorem dX8_isWithin_7 : decode cX8_isWithin 7 = .ok (.if_icmp .gt 7, 3) := by decide +kernel
theorem dX8_isWithin_10 : decode cX8_isWithin 10 = .ok (.iconst 1, 1) := by decide +kernel
theorem dX8_isWithin_11 : decode cX8_isWithin 11 = .ok (.goto 4, 3) := by decide +kernel
theorem dX8_isWithin_14 : decode cX8_isWithin 14 = .ok (.iconst 0, 1) := by decide +kernel
theorem dX8_isWithin_15 : decode cX8_isWithin 15 = .ok (.ireturn, 1) := by decide +kernel
theorem dX8_held_0 : decode cX8_held 0 = .ok (.iload_n 0, 1) := by decide +kernel
theorem dX8_held_1 : decode cX8_held 1 = .ok (.iload_n 1, 1) := by decide +kernel
theorem dX8_held_2 : decode cX8_held 2 = .ok (.if_icmp .ge 7, 3) := by decide +kernel
theorem dX8_held_5 : decode cX8_held 5 = .ok (.iload_n 1, 1) := by decide +kernel
theorem dX8_held_6 : decode cX8_held 6 = .ok (.goto 13, 3) := by decide +kernel
theorem dX8_held_9 : decode cX8_held 9 = .ok (.iload_n 0, 1) := by decide +kernel
theorem dX8_held_10 : decode cX8_held 10 = .ok (.iload_n 2, 1) := by decide +kernel
theorem dX8_held_11 : decode cX8_held 11 = .ok (.if_icmp .le 7, 3) := by decide +kernel
theorem dX8_held_14 : decode cX8_held 14 = .ok (.iload_n 2, 1) := by decide +kernel
theorem dX8_held_15 : decode cX8_held 15 = .ok (.goto 4, 3) := by decide +kernel
theorem dX8_held_18 : decode cX8_held 18 = .ok (.iload_n 0, 1) := by decide +kernel
theorem dX8_held_19 : decode cX8_held 19 = .ok (.ireturn, 1) := by decide +kernel
theorem dX8_has_0 : decode cX8_has 0 = .ok (.iload_n 0, 1) := by decide +kernel
theorem dX8_has_1 : decode cX8_has 1 = .ok (.iload_n 1, 1) := by decide +kernel
theorem dX8_has_2 : decode cX8_has 2 = .ok (.ishr, 1) := by decide +kernel
theorem dX8_has_3 : decode cX8_has 3 = .ok (.iconst 1, 1) := by decide +kernel
theorem dX8_has_4 : decode cX8_has 4 = .ok (.iand, 1) := by decide +kernel
theorem dX8_has_5 : decode cX8_has 5 = .ok (.iconst 1, 1) := by decide +kernel
theorem dX8_has_6 : decode cX8_has 6 = .ok (.if_icmp .ne 7, 3) := by decide +kernel
theorem dX8_has_9 : decode cX8_has 9 = .ok (.iconst 1, 1) := by decide +kernel
theorem dX8_has_10 : decode cX8_has 10 = .ok (.goto 4, 3) := by decide +kernel
theorem dX8_has_13 : decode cX8_has 13 = .ok (.iconst 0, 1) := by decide +kernel
theorem dX8_has_14 : decode cX8_has 14 = .ok (.ireturn, 1) := by decide +kernel
theorem dJ6_numberOfTrailingZeros_0f7a4_0 : decode cJ6_numberOfTrailingZeros_0f7a4 0 = .ok (.iload_n 0, 1) := by decide +kernel
theorem dJ6_numberOfTrailingZeros_0f7a4_1 : decode cJ6_numberOfTrailingZeros_0f7a4 1 = .ok (.iconst (-1), 1) := by decide +kernel
theorem dJ6_numberOfTrailingZeros_0f7a4_2 : decode cJ6_numberOfTrailingZeros_0f7a4 2 = .ok (.ixor, 1) := by decide +kernel
theorem dJ6_numberOfTrailingZeros_0f7a4_3 : decode cJ6_numberOfTrailingZeros_0f7a4 3 = .ok (.iload_n 0, 1) := by decide +kernel
theorem dJ6_numberOfTrailingZeros_0f7a4_4 : decode cJ6_numberOfTrailingZeros_0f7a4 4 = .ok (.iconst 1, 1) := by decide +kernel
theorem dJ6_numberOfTrailingZeros_0f7a4_5 : decode cJ6_numberOfTrailingZeros_0f7a4 5 = .ok (.isub, 1) := by decide +kernel
theorem dJ6_numberOfTrailingZeros_0f7a4_6 : decode cJ6_numberOfTrailingZeros_0f7a4 6 = .ok (.iand, 1) := by decide +kernel
theorem dJ6_numberOfTrailingZeros_0f7a4_7 : decode cJ6_numberOfTrailingZeros_0f7a4 7 = .ok (.istore_n 0, 1) := by decide +kernel
theorem dJ6_numberOfTrailingZeros_0f7a4_8 : decode cJ6_numberOfTrailingZeros_0f7a4 8 = .ok (.iload_n 0, 1) := by decide +kernel
theorem dJ6_numberOfTrailingZeros_0f7a4_9 : decode cJ6_numberOfTrailingZeros_0f7a4 9 = .ok (.ifCond .gt 8, 3) := by decide +kernel
theorem dJ6_numberOfTrailingZeros_0f7a4_12 : decode cJ6_numberOfTrailingZeros_0f7a4 12 = .ok (.iload_n 0, 1) := by decide +kernel
theorem dJ6_numberOfTrailingZeros_0f7a4_13 : decode cJ6_numberOfTrailingZeros_0f7a4 13 = .ok (.bipush 32, 2) := by decide +kernel
theorem dJ6_numberOfTrailingZeros_0f7a4_15 : decode cJ6_numberOfTrailingZeros_0f7a4 15 = .ok (.iand, 1) := by decide +kernel
theorem dJ6_numberOfTrailingZeros_0f7a4_16 : decode cJ6_numberOfTrailingZeros_0f7a4 16 = .ok (.ireturn, 1) := by decide +kernel
theorem dJ6_numberOfTrailingZeros_0f7a4_17 : decode cJ6_numberOfTrailingZeros_0f7a4 17 = .ok (.iconst 1, 1) := by decide +kernel
theorem dJ6_numberOfTrailingZeros_0f7a4_18 : decode cJ6_numberOfTrailingZeros_0f7a4 18 = .ok (.istore_n 1, 1) := by decide +kernel
theorem dJ6_numberOfTrailingZeros_0f7a4_19 : decode cJ6_numberOfTrailingZeros_0f7a4 19 = .ok (.iload_n 0, 1) := by decide +kernel
theorem dJ6_numberOfTrailingZeros_0f7a4_20 : decode cJ6_numberOfTrailingZeros_0f7a4 20 = .ok (.ldc_w 264, 3) := by decide +kernel
theorem dJ6_numberOfTrailingZeros_0f7a4_23 : decode cJ6_numberOfTrailingZeros_0f7a4 23 = .ok (.if_icmp .le 11, 3) := by decide +kernel
theorem dJ6_numberOfTrailingZeros_0f7a4_26 : decode cJ6_numberOfTrailingZeros_0f7a4 26 = .ok (.iinc 1 16, 3) := by decide +kernel
theorem dJ6_numberOfTrailingZeros_0f7a4_29 : decode cJ6_numberOfTrailingZeros_0f7a4 29 = .ok (.iload_n 0, 1) := by decide +kernel
theorem dJ6_numberOfTrailingZeros_0f7a4_30 : decode cJ6_numberOfTrailingZeros_0f7a4 30 = .ok (.bipush 16, 2) := by decide +kernel
theorem dJ6_numberOfTrailingZeros_0f7a4_32 : decode cJ6_numberOfTrailingZeros_0f7a4 32 = .ok (.iushr, 1) := by decide +kernel
theorem dJ6_numberOfTrailingZeros_0f7a4_33 : decode cJ6_numberOfTrailingZeros_0f7a4 33 = .ok (.istore_n 0, 1) := by decide +kernel
theorem dJ6_numberOfTrailingZeros_0f7a4_34 : decode cJ6_numberOfTrailingZeros_0f7a4 34 = .ok (.iload_n 0, 1) := by decide +kernel
theorem dJ6_numberOfTrailingZeros_0f7a4_35 : decode cJ6_numberOfTrailingZeros_0f7a4 35 = .ok (.sipush 256, 3) := by decide +kernel
theorem dJ6_numberOfTrailingZeros_0f7a4_38 : decode cJ6_numberOfTrailingZeros_0f7a4 38 = .ok (.if_icmp .le 11, 3) := by decide +kernel
theorem dJ6_numberOfTrailingZeros_0f7a4_41 : decode cJ6_numberOfTrailingZeros_0f7a4 41 = .ok (.iinc 1 8, 3) := by decide +kernel
theorem dJ6_numberOfTrailingZeros_0f7a4_44 : decode cJ6_numberOfTrailingZeros_0f7a4 44 = .ok (.iload_n 0, 1) := by decide +kernel
theorem dJ6_numberOfTrailingZeros_0f7a4_45 : decode cJ6_numberOfTrailingZeros_0f7a4 45 = .ok (.bipush 8, 2) := by decide +kernel
theorem dJ6_numberOfTrailingZeros_0f7a4_47 : decode cJ6_numberOfTrailingZeros_0f7a4 47 = .ok (.iushr, 1) := by decide +kernel
theorem dJ6_numberOfTrailingZeros_0f7a4_48 : decode cJ6_numberOfTrailingZeros_0f7a4 48 = .ok (.istore_n 0, 1) := by decide +kernel
theorem dJ6_numberOfTrailingZeros_0f7a4_49 : decode cJ6_numberOfTrailingZeros_0f7a4 49 = .ok (.iload_n 0, 1) := by decide +kernel
theorem dJ6_numberOfTrailingZeros_0f7a4_50 : decode cJ6_numberOfTrailingZeros_0f7a4 50 = .ok (.bipush 16, 2) := by decide +kernel
theorem dJ6_numberOfTrailingZeros_0f7a4_52 : decode cJ6_numberOfTrailingZeros_0f7a4 52 = .ok (.if_icmp .le 10, 3) := by decide +kernel
theorem dJ6_numberOfTrailingZeros_0f7a4_55 : decode cJ6_numberOfTrailingZeros_0f7a4 55 = .ok (.iinc 1 4, 3) := by decide +kernel
theorem dJ6_numberOfTrailingZeros_0f7a4_58 : decode cJ6_numberOfTrailingZeros_0f7a4 58 = .ok (.iload_n 0, 1) := by decide +kernel
theorem dJ6_numberOfTrailingZeros_0f7a4_59 : decode cJ6_numberOfTrailingZeros_0f7a4 59 = .ok (.iconst 4, 1) := by decide +kernel
theorem dJ6_numberOfTrailingZeros_0f7a4_60 : decode cJ6_numberOfTrailingZeros_0f7a4 60 = .ok (.iushr, 1) := by decide +kernel
theorem dJ6_numberOfTrailingZeros_0f7a4_61 : decode cJ6_numberOfTrailingZeros_0f7a4 61 = .ok (.istore_n 0, 1) := by decide +kernel
theorem dJ6_numberOfTrailingZeros_0f7a4_62 : decode cJ6_numberOfTrailingZeros_0f7a4 62 = .ok (.iload_n 0, 1) := by decide +kernel
theorem dJ6_numberOfTrailingZeros_0f7a4_63 : decode cJ6_numberOfTrailingZeros_0f7a4 63 = .ok (.iconst 4, 1) := by decide +kernel
theorem dJ6_numberOfTrailingZeros_0f7a4_64 : decode cJ6_numberOfTrailingZeros_0f7a4 64 = .ok (.if_icmp .le 10, 3) := by decide +kernel
theorem dJ6_numberOfTrailingZeros_0f7a4_67 : decode cJ6_numberOfTrailingZeros_0f7a4 67 = .ok (.iinc 1 2, 3) := by decide +kernel
theorem dJ6_numberOfTrailingZeros_0f7a4_70 : decode cJ6_numberOfTrailingZeros_0f7a4 70 = .ok (.iload_n 0, 1) := by decide +kernel
theorem dJ6_numberOfTrailingZeros_0f7a4_71 : decode cJ6_numberOfTrailingZeros_0f7a4 71 = .ok (.iconst 2, 1) := by decide +kernel
theorem dJ6_numberOfTrailingZeros_0f7a4_72 : decode cJ6_numberOfTrailingZeros_0f7a4 72 = .ok (.iushr, 1) := by decide +kernel
theorem dJ6_numberOfTrailingZeros_0f7a4_73 : decode cJ6_numberOfTrailingZeros_0f7a4 73 = .ok (.istore_n 0, 1) := by decide +kernel
theorem dJ6_numberOfTrailingZeros_0f7a4_74 : decode cJ6_numberOfTrailingZeros_0f7a4 74 = .ok (.iload_n 1, 1) := by decide +kernel
theorem dJ6_numberOfTrailingZeros_0f7a4_75 : decode cJ6_numberOfTrailingZeros_0f7a4 75 = .ok (.iload_n 0, 1) := by decide +kernel
theorem dJ6_numberOfTrailingZeros_0f7a4_76 : decode cJ6_numberOfTrailingZeros_0f7a4 76 = .ok (.iconst 1, 1) := by decide +kernel
theorem dJ6_numberOfTrailingZeros_0f7a4_77 : decode cJ6_numberOfTrailingZeros_0f7a4 77 = .ok (.iushr, 1) := by decide +kernel
theorem dJ6_numberOfTrailingZeros_0f7a4_78 : decode cJ6_numberOfTrailingZeros_0f7a4 78 = .ok (.iadd, 1) := by decide +kernel
theorem dJ6_numberOfTrailingZeros_0f7a4_79 : decode cJ6_numberOfTrailingZeros_0f7a4 79 = .ok (.ireturn, 1) := by decide +kernel
theorem dJ6_bitCount_0f7a4_0 : decode cJ6_bitCount_0f7a4 0 = .ok (.iload_n 0, 1) := by decide +kernel
theorem dJ6_bitCount_0f7a4_1 : decode cJ6_bitCount_0f7a4 1 = .ok (.iload_n 0, 1) := by decide +kernel
theorem dJ6_bitCount_0f7a4_2 : decode cJ6_bitCount_0f7a4 2 = .ok (.iconst 1, 1) := by decide +kernel
theorem dJ6_bitCount_0f7a4_3 : decode cJ6_bitCount_0f7a4 3 = .ok (.iushr, 1) := by decide +kernel
theorem dJ6_bitCount_0f7a4_4 : decode cJ6_bitCount_0f7a4 4 = .ok (.ldc_w 265, 3) := by decide +kernel
theorem dJ6_bitCount_0f7a4_7 : decode cJ6_bitCount_0f7a4 7 = .ok (.iand, 1) := by decide +kernel
theorem dJ6_bitCount_0f7a4_8 : decode cJ6_bitCount_0f7a4 8 = .ok (.isub, 1) := by decide +kernel
theorem dJ6_bitCount_0f7a4_9 : decode cJ6_bitCount_0f7a4 9 = .ok (.istore_n 0, 1) := by decide +kernel
theorem dJ6_bitCount_0f7a4_10 : decode cJ6_bitCount_0f7a4 10 = .ok (.iload_n 0, 1) := by decide +kernel
theorem dJ6_bitCount_0f7a4_11 : decode cJ6_bitCount_0f7a4 11 = .ok (.ldc_w 266, 3) := by decide +kernel
theorem dJ6_bitCount_0f7a4_14 : decode cJ6_bitCount_0f7a4 14 = .ok (.iand, 1) := by decide +kernel
theorem dJ6_bitCount_0f7a4_15 : decode cJ6_bitCount_0f7a4 15 = .ok (.iload_n 0, 1) := by decide +kernel
theorem dJ6_bitCount_0f7a4_16 : decode cJ6_bitCount_0f7a4 16 = .ok (.iconst 2, 1) := by decide +kernel
theorem dJ6_bitCount_0f7a4_17 : decode cJ6_bitCount_0f7a4 17 = .ok (.iushr, 1) := by decide +kernel
theorem dJ6_bitCount_0f7a4_18 : decode cJ6_bitCount_0f7a4 18 = .ok (.ldc_w 266, 3) := by decide +kernel
theorem dJ6_bitCount_0f7a4_21 : decode cJ6_bitCount_0f7a4 21 = .ok (.iand, 1) := by decide +kernel
theorem dJ6_bitCount_0f7a4_22 : decode cJ6_bitCount_0f7a4 22 = .ok (.iadd, 1) := by decide +kernel
theorem dJ6_bitCount_0f7a4_23 : decode cJ6_bitCount_0f7a4 23 = .ok (.istore_n 0, 1) := by decide +kernel
theorem dJ6_bitCount_0f7a4_24 : decode cJ6_bitCount_0f7a4 24 = .ok (.iload_n 0, 1) := by decide +kernel
theorem dJ6_bitCount_0f7a4_25 : decode cJ6_bitCount_0f7a4 25 = .ok (.iload_n 0, 1) := by decide +kernel
theorem dJ6_bitCount_0f7a4_26 : decode cJ6_bitCount_0f7a4 26 = .ok (.iconst 4, 1) := by decide +kernel
theorem dJ6_bitCount_0f7a4_27 : decode cJ6_bitCount_0f7a4 27 = .ok (.iushr, 1) := by decide +kernel
theorem dJ6_bitCount_0f7a4_28 : decode cJ6_bitCount_0f7a4 28 = .ok (.iadd, 1) := by decide +kernel
theorem dJ6_bitCount_0f7a4_29 : decode cJ6_bitCount_0f7a4 29 = .ok (.ldc_w 267, 3) := by decide +kernel
theorem dJ6_bitCount_0f7a4_32 : decode cJ6_bitCount_0f7a4 32 = .ok (.iand, 1) := by decide +kernel
theorem dJ6_bitCount_0f7a4_33 : decode cJ6_bitCount_0f7a4 33 = .ok (.istore_n 0, 1) := by decide +kernel
theorem dJ6_bitCount_0f7a4_34 : decode cJ6_bitCount_0f7a4 34 = .ok (.iload_n 0, 1) := by decide +kernel
theorem dJ6_bitCount_0f7a4_35 : decode cJ6_bitCount_0f7a4 35 = .ok (.iload_n 0, 1) := by decide +kernel
theorem dJ6_bitCount_0f7a4_36 : decode cJ6_bitCount_0f7a4 36 = .ok (.bipush 8, 2) := by decide +kernel
theorem dJ6_bitCount_0f7a4_38 : decode cJ6_bitCount_0f7a4 38 = .ok (.iushr, 1) := by decide +kernel
theorem dJ6_bitCount_0f7a4_39 : decode cJ6_bitCount_0f7a4 39 = .ok (.iadd, 1) := by decide +kernel
theorem dJ6_bitCount_0f7a4_40 : decode cJ6_bitCount_0f7a4 40 = .ok (.istore_n 0, 1) := by decide +kernel
theorem dJ6_bitCount_0f7a4_41 : decode cJ6_bitCount_0f7a4 41 = .ok (.iload_n 0, 1) := by decide +kernel
theorem dJ6_bitCount_0f7a4_42 : decode cJ6_bitCount_0f7a4 42 = .ok (.iload_n 0, 1) := by decide +kernel
theorem dJ6_bitCount_0f7a4_43 : decode cJ6_bitCount_0f7a4 43 = .ok (.bipush 16, 2) := by decide +kernel
theorem dJ6_bitCount_0f7a4_45 : decode cJ6_bitCount_0f7a4 45 = .ok (.iushr, 1) := by decide +kernel
theorem dJ6_bitCount_0f7a4_46 : decode cJ6_bitCount_0f7a4 46 = .ok (.iadd, 1) := by decide +kernel
theorem dJ6_bitCount_0f7a4_47 : decode cJ6_bitCount_0f7a4 47 = .ok (.istore_n 0, 1) := by decide +kernel
theorem dJ6_bitCount_0f7a4_48 : decode cJ6_bitCount_0f7a4 48 = .ok (.iload_n 0, 1) := by decide +kernel
theorem dJ6_bitCount_0f7a4_49 : decode cJ6_bitCount_0f7a4 49 = .ok (.bipush 63, 2) := by decide +kernel
theorem dJ6_bitCount_0f7a4_51 : decode cJ6_bitCount_0f7a4 51 = .ok (.iand, 1) := by decide +kernel
theorem dJ6_bitCount_0f7a4_52 : decode cJ6_bitCount_0f7a4 52 = .ok (.ireturn, 1) := by decide +kernel
theorem dJ9_max_7cf53_0 : decode cJ9_max_7cf53 0 = .ok (.iload_n 0, 1) := by decide +kernel
theorem dJ9_max_7cf53_1 : decode cJ9_max_7cf53 1 = .ok (.iload_n 1, 1) := by decide +kernel
theorem dJ9_max_7cf53_2 : decode cJ9_max_7cf53 2 = .ok (.if_icmp .lt 7, 3) := by decide +kernel
theorem dJ9_max_7cf53_5 : decode cJ9_max_7cf53 5 = .ok (.iload_n 0, 1) := by decide +kernel
theorem dJ9_max_7cf53_6 : decode cJ9_max_7cf53 6 = .ok (.goto 4, 3) := by decide +kernel
theorem dJ9_max_7cf53_9 : decode cJ9_max_7cf53 9 = .ok (.iload_n 1, 1) := by decide +kernel
theorem dJ9_max_7cf53_10 : decode cJ9_max_7cf53 10 = .ok (.ireturn, 1) := by decide +kernel
theorem dJ9_min_7cf53_0 : decode cJ9_min_7cf53 0 = .ok (.iload_n 0, 1) := by decide +kernel
theorem dJ9_min_7cf53_1 : decode cJ9_min_7cf53 1 = .ok (.iload_n 1, 1) := by decide +kernel
theorem dJ9_min_7cf53_2 : decode cJ9_min_7cf53 2 = .ok (.if_icmp .gt 7, 3) := by decide +kernel
theorem dJ9_min_7cf53_5 : decode cJ9_min_7cf53 5 = .ok (.iload_n 0, 1) := by decide +kernel
theorem dJ9_min_7cf53_6 : decode cJ9_min_7cf53 6 = .ok (.goto 4, 3) := by decide +kernel
theorem dJ9_min_7cf53_9 : decode cJ9_min_7cf53 9 = .ok (.iload_n 1, 1) := by decide +kernel
theorem dJ9_min_7cf53_10 : decode cJ9_min_7cf53 10 = .ok (.ireturn, 1) := by decide +kernel
theorem dJ0_length_8abf5_0 : decode cJ0_length_8abf5 0 = .ok (.aload_n 0, 1) := by decide +kernel
theorem dJ0_length_8abf5_1 : decode cJ0_length_8abf5 1 = .ok (.getfield 9, 3) := by decide +kernel
theorem dJ0_length_8abf5_4 : decode cJ0_length_8abf5 4 = .ok (.arraylength, 1) := by decide +kernel
theorem dJ0_length_8abf5_5 : decode cJ0_length_8abf5 5 = .ok (.aload_n 0, 1) := by decide +kernel
theorem dJ0_length_8abf5_6 : decode cJ0_length_8abf5 6 = .ok (.invokevirtual 335, 3) := by decide +kernel
theorem dJ0_length_8abf5_9 : decode cJ0_length_8abf5 9 = .ok (.ishr, 1) := by decide +kernel
theorem dJ0_length_8abf5_10 : decode cJ0_length_8abf5 10 = .ok (.ireturn, 1) := by decide +kernel
theorem dJ0_charAt_5068e_0 : decode cJ0_charAt_5068e 0 = .ok (.aload_n 0, 1) := by decide +kernel
theorem dJ0_charAt_5068e_1 : decode cJ0_charAt_5068e 1 = .ok (.invokevirtual 492, 3) := by decide +kernel
theorem dJ0_charAt_5068e_4 : decode cJ0_charAt_5068e 4 = .ok (.ifCond .eq 12, 3) := by decide +kernel
theorem dJ0_charAt_5068e_7 : decode cJ0_charAt_5068e 7 = .ok (.aload_n 0, 1) := by decide +kernel
theorem dJ0_charAt_5068e_8 : decode cJ0_charAt_5068e 8 = .ok (.getfield 9, 3) := by decide +kernel
theorem dJ0_charAt_5068e_11 : decode cJ0_charAt_5068e 11 = .ok (.iload_n 1, 1) := by decide +kernel
theorem dJ0_charAt_5068e_12 : decode cJ0_charAt_5068e 12 = .ok (.invokestatic 495, 3) := by decide +kernel
theorem dJ0_charAt_5068e_15 : decode cJ0_charAt_5068e 15 = .ok (.ireturn, 1) := by decide +kernel
theorem dJ0_charAt_5068e_16 : decode cJ0_charAt_5068e 16 = .ok (.aload_n 0, 1) := by decide +kernel
theorem dJ0_charAt_5068e_17 : decode cJ0_charAt_5068e 17 = .ok (.getfield 9, 3) := by decide +kernel
theorem dJ0_charAt_5068e_20 : decode cJ0_charAt_5068e 20 = .ok (.iload_n 1, 1) := by decide +kernel
theorem dJ0_charAt_5068e_21 : decode cJ0_charAt_5068e 21 = .ok (.invokestatic 498, 3) := by decide +kernel
theorem dJ0_charAt_5068e_24 : decode cJ0_charAt_5068e 24 = .ok (.ireturn, 1) := by decide +kernel
theorem dJ0_indexOf_0f7a4_0 : decode cJ0_indexOf_0f7a4 0 = .ok (.aload_n 0, 1) := by decide +kernel
theorem dJ0_indexOf_0f7a4_1 : decode cJ0_indexOf_0f7a4 1 = .ok (.iload_n 1, 1) := by decide +kernel
theorem dJ0_indexOf_0f7a4_2 : decode cJ0_indexOf_0f7a4 2 = .ok (.iconst 0, 1) := by decide +kernel
theorem dJ0_indexOf_0f7a4_3 : decode cJ0_indexOf_0f7a4 3 = .ok (.invokevirtual 633, 3) := by decide +kernel
theorem dJ0_indexOf_0f7a4_6 : decode cJ0_indexOf_0f7a4 6 = .ok (.ireturn, 1) := by decide +kernel
theorem dJ0_indexOf_7cf53_0 : decode cJ0_indexOf_7cf53 0 = .ok (.aload_n 0, 1) := by decide +kernel
theorem dJ0_indexOf_7cf53_1 : decode cJ0_indexOf_7cf53 1 = .ok (.invokevirtual 492, 3) := by decide +kernel
theorem dJ0_indexOf_7cf53_4 : decode cJ0_indexOf_7cf53 4 = .ok (.ifCond .eq 19, 3) := by decide +kernel
theorem dJ0_indexOf_7cf53_7 : decode cJ0_indexOf_7cf53 7 = .ok (.aload_n 0, 1) := by decide +kernel
theorem dJ0_indexOf_7cf53_8 : decode cJ0_indexOf_7cf53 8 = .ok (.getfield 9, 3) := by decide +kernel
theorem dJ0_indexOf_7cf53_11 : decode cJ0_indexOf_7cf53 11 = .ok (.iload_n 1, 1) := by decide +kernel
theorem dJ0_indexOf_7cf53_12 : decode cJ0_indexOf_7cf53 12 = .ok (.iload_n 2, 1) := by decide +kernel
theorem dJ0_indexOf_7cf53_13 : decode cJ0_indexOf_7cf53 13 = .ok (.aload_n 0, 1) := by decide +kernel
theorem dJ0_indexOf_7cf53_14 : decode cJ0_indexOf_7cf53 14 = .ok (.invokevirtual 505, 3) := by decide +kernel
theorem dJ0_indexOf_7cf53_17 : decode cJ0_indexOf_7cf53 17 = .ok (.invokestatic 637, 3) := by decide +kernel
theorem dJ0_indexOf_7cf53_20 : decode cJ0_indexOf_7cf53 20 = .ok (.goto 16, 3) := by decide +kernel
theorem dJ0_indexOf_7cf53_23 : decode cJ0_indexOf_7cf53 23 = .ok (.aload_n 0, 1) := by decide +kernel
theorem dJ0_indexOf_7cf53_24 : decode cJ0_indexOf_7cf53 24 = .ok (.getfield 9, 3) := by decide +kernel
theorem dJ0_indexOf_7cf53_27 : decode cJ0_indexOf_7cf53 27 = .ok (.iload_n 1, 1) := by decide +kernel
theorem dJ0_indexOf_7cf53_28 : decode cJ0_indexOf_7cf53 28 = .ok (.iload_n 2, 1) := by decide +kernel
theorem dJ0_indexOf_7cf53_29 : decode cJ0_indexOf_7cf53 29 = .ok (.aload_n 0, 1) := by decide +kernel
theorem dJ0_indexOf_7cf53_30 : decode cJ0_indexOf_7cf53 30 = .ok (.invokevirtual 505, 3) := by decide +kernel
theorem dJ0_indexOf_7cf53_33 : decode cJ0_indexOf_7cf53 33 = .ok (.invokestatic 640, 3) := by decide +kernel
theorem dJ0_indexOf_7cf53_36 : decode cJ0_indexOf_7cf53 36 = .ok (.ireturn, 1) := by decide +kernel
theorem dJ0_coder_7d493_0 : decode cJ0_coder_7d493 0 = .ok (.getstatic 38, 3) := by decide +kernel
theorem dJ0_coder_7d493_3 : decode cJ0_coder_7d493 3 = .ok (.ifCond .eq 10, 3) := by decide +kernel
theorem dJ0_coder_7d493_6 : decode cJ0_coder_7d493 6 = .ok (.aload_n 0, 1) := by decide +kernel
theorem dJ0_coder_7d493_7 : decode cJ0_coder_7d493 7 = .ok (.getfield 15, 3) := by decide +kernel
theorem dJ0_coder_7d493_10 : decode cJ0_coder_7d493 10 = .ok (.goto 4, 3) := by decide +kernel
theorem dJ0_coder_7d493_13 : decode cJ0_coder_7d493 13 = .ok (.iconst 1, 1) := by decide +kernel
theorem dJ0_coder_7d493_14 : decode cJ0_coder_7d493 14 = .ok (.ireturn, 1) := by decide +kernel
theorem dJ0_isLatin1_aae02_0 : decode cJ0_isLatin1_aae02 0 = .ok (.getstatic 38, 3) := by decide +kernel
theorem dJ0_isLatin1_aae02_3 : decode cJ0_isLatin1_aae02 3 = .ok (.ifCond .eq 14, 3) := by decide +kernel
theorem dJ0_isLatin1_aae02_6 : decode cJ0_isLatin1_aae02 6 = .ok (.aload_n 0, 1) := by decide +kernel
theorem dJ0_isLatin1_aae02_7 : decode cJ0_isLatin1_aae02 7 = .ok (.getfield 15, 3) := by decide +kernel
theorem dJ0_isLatin1_aae02_10 : decode cJ0_isLatin1_aae02 10 = .ok (.ifCond .ne 7, 3) := by decide +kernel
theorem dJ0_isLatin1_aae02_13 : decode cJ0_isLatin1_aae02 13 = .ok (.iconst 1, 1) := by decide +kernel
theorem dJ0_isLatin1_aae02_14 : decode cJ0_isLatin1_aae02 14 = .ok (.goto 4, 3) := by decide +kernel
theorem dJ0_isLatin1_aae02_17 : decode cJ0_isLatin1_aae02 17 = .ok (.iconst 0, 1) := by decide +kernel
theorem dJ0_isLatin1_aae02_18 : decode cJ0_isLatin1_aae02 18 = .ok (.ireturn, 1) := by decide +kernel
theorem dJ0_checkIndex_df160_0 : decode cJ0_checkIndex_df160 0 = .ok (.iload_n 0, 1) := by decide +kernel
theorem dJ0_checkIndex_df160_1 : decode cJ0_checkIndex_df160 1 = .ok (.iload_n 1, 1) := by decide +kernel
theorem dJ0_checkIndex_df160_2 : decode cJ0_checkIndex_df160 2 = .ok (.getstatic 1053, 3) := by decide +kernel
theorem dJ0_checkIndex_df160_5 : decode cJ0_checkIndex_df160 5 = .ok (.invokestatic 1059, 3) := by decide +kernel
theorem dJ0_checkIndex_df160_8 : decode cJ0_checkIndex_df160 8 = .ok (.pop, 1) := by decide +kernel
theorem dJ0_checkIndex_df160_9 : decode cJ0_checkIndex_df160 9 = .ok (.return_, 1) := by decide +kernel
theorem dJ0_checkBoundsBeginEnd_23922_0 : decode cJ0_checkBoundsBeginEnd_23922 0 = .ok (.iload_n 0, 1) := by decide +kernel
theorem dJ0_checkBoundsBeginEnd_23922_1 : decode cJ0_checkBoundsBeginEnd_23922 1 = .ok (.iload_n 1, 1) := by decide +kernel
theorem dJ0_checkBoundsBeginEnd_23922_2 : decode cJ0_checkBoundsBeginEnd_23922 2 = .ok (.iload_n 2, 1) := by decide +kernel
theorem dJ0_checkBoundsBeginEnd_23922_3 : decode cJ0_checkBoundsBeginEnd_23922 3 = .ok (.getstatic 1053, 3) := by decide +kernel
theorem dJ0_checkBoundsBeginEnd_23922_6 : decode cJ0_checkBoundsBeginEnd_23922 6 = .ok (.invokestatic 1062, 3) := by decide +kernel
theorem dJ0_checkBoundsBeginEnd_23922_9 : decode cJ0_checkBoundsBeginEnd_23922 9 = .ok (.pop, 1) := by decide +kernel
theorem dJ0_checkBoundsBeginEnd_23922_10 : decode cJ0_checkBoundsBeginEnd_23922 10 = .ok (.return_, 1) := by decide +kernel
theorem dJ1_charAt_3b067_0 : decode cJ1_charAt_3b067 0 = .ok (.iload_n 1, 1) := by decide +kernel
theorem dJ1_charAt_3b067_1 : decode cJ1_charAt_3b067 1 = .ok (.aload_n 0, 1) := by decide +kernel
theorem dJ1_charAt_3b067_2 : decode cJ1_charAt_3b067 2 = .ok (.arraylength, 1) := by decide +kernel
theorem dJ1_charAt_3b067_3 : decode cJ1_charAt_3b067 3 = .ok (.invokestatic 9, 3) := by decide +kernel
theorem dJ1_charAt_3b067_6 : decode cJ1_charAt_3b067 6 = .ok (.aload_n 0, 1) := by decide +kernel
theorem dJ1_charAt_3b067_7 : decode cJ1_charAt_3b067 7 = .ok (.iload_n 1, 1) := by decide +kernel
theorem dJ1_charAt_3b067_8 : decode cJ1_charAt_3b067 8 = .ok (.baload, 1) := by decide +kernel
theorem dJ1_charAt_3b067_9 : decode cJ1_charAt_3b067 9 = .ok (.sipush 255, 3) := by decide +kernel
theorem dJ1_charAt_3b067_12 : decode cJ1_charAt_3b067 12 = .ok (.iand, 1) := by decide +kernel
theorem dJ1_charAt_3b067_13 : decode cJ1_charAt_3b067 13 = .ok (.i2c, 1) := by decide +kernel
theorem dJ1_charAt_3b067_14 : decode cJ1_charAt_3b067 14 = .ok (.ireturn, 1) := by decide +kernel
theorem dJ1_canEncode_9a6ad_0 : decode cJ1_canEncode_9a6ad 0 = .ok (.iload_n 0, 1) := by decide +kernel
theorem dJ1_canEncode_9a6ad_1 : decode cJ1_canEncode_9a6ad 1 = .ok (.ifCond .lt 14, 3) := by decide +kernel
theorem dJ1_canEncode_9a6ad_4 : decode cJ1_canEncode_9a6ad 4 = .ok (.iload_n 0, 1) := by decide +kernel
theorem dJ1_canEncode_9a6ad_5 : decode cJ1_canEncode_9a6ad 5 = .ok (.sipush 255, 3) := by decide +kernel
theorem dJ1_canEncode_9a6ad_8 : decode cJ1_canEncode_9a6ad 8 = .ok (.if_icmp .gt 7, 3) := by decide +kernel
theorem dJ1_canEncode_9a6ad_11 : decode cJ1_canEncode_9a6ad 11 = .ok (.iconst 1, 1) := by decide +kernel
theorem dJ1_canEncode_9a6ad_12 : decode cJ1_canEncode_9a6ad 12 = .ok (.goto 4, 3) := by decide +kernel
theorem dJ1_canEncode_9a6ad_15 : decode cJ1_canEncode_9a6ad 15 = .ok (.iconst 0, 1) := by decide +kernel
theorem dJ1_canEncode_9a6ad_16 : decode cJ1_canEncode_9a6ad 16 = .ok (.ireturn, 1) := by decide +kernel
theorem dJ1_indexOf_4cfef_0 : decode cJ1_indexOf_4cfef 0 = .ok (.iload_n 1, 1) := by decide +kernel
theorem dJ1_indexOf_4cfef_1 : decode cJ1_indexOf_4cfef 1 = .ok (.invokestatic 88, 3) := by decide +kernel
theorem dJ1_indexOf_4cfef_4 : decode cJ1_indexOf_4cfef 4 = .ok (.ifCond .ne 5, 3) := by decide +kernel
theorem dJ1_indexOf_4cfef_7 : decode cJ1_indexOf_4cfef 7 = .ok (.iconst (-1), 1) := by decide +kernel
theorem dJ1_indexOf_4cfef_8 : decode cJ1_indexOf_4cfef 8 = .ok (.ireturn, 1) := by decide +kernel
theorem dJ1_indexOf_4cfef_9 : decode cJ1_indexOf_4cfef 9 = .ok (.iload_n 2, 1) := by decide +kernel
theorem dJ1_indexOf_4cfef_10 : decode cJ1_indexOf_4cfef 10 = .ok (.iconst 0, 1) := by decide +kernel
theorem dJ1_indexOf_4cfef_11 : decode cJ1_indexOf_4cfef 11 = .ok (.invokestatic 92, 3) := by decide +kernel
theorem dJ1_indexOf_4cfef_14 : decode cJ1_indexOf_4cfef 14 = .ok (.istore_n 2, 1) := by decide +kernel
theorem dJ1_indexOf_4cfef_15 : decode cJ1_indexOf_4cfef 15 = .ok (.iload_n 3, 1) := by decide +kernel
theorem dJ1_indexOf_4cfef_16 : decode cJ1_indexOf_4cfef 16 = .ok (.aload_n 0, 1) := by decide +kernel
theorem dJ1_indexOf_4cfef_17 : decode cJ1_indexOf_4cfef 17 = .ok (.arraylength, 1) := by decide +kernel
theorem dJ1_indexOf_4cfef_18 : decode cJ1_indexOf_4cfef 18 = .ok (.invokestatic 38, 3) := by decide +kernel
theorem dJ1_indexOf_4cfef_21 : decode cJ1_indexOf_4cfef 21 = .ok (.istore_n 3, 1) := by decide +kernel
theorem dJ1_indexOf_4cfef_22 : decode cJ1_indexOf_4cfef 22 = .ok (.iload_n 2, 1) := by decide +kernel
theorem dJ1_indexOf_4cfef_23 : decode cJ1_indexOf_4cfef 23 = .ok (.iload_n 3, 1) := by decide +kernel
theorem dJ1_indexOf_4cfef_24 : decode cJ1_indexOf_4cfef 24 = .ok (.if_icmp .lt 5, 3) := by decide +kernel
theorem dJ1_indexOf_4cfef_27 : decode cJ1_indexOf_4cfef 27 = .ok (.iconst (-1), 1) := by decide +kernel
theorem dJ1_indexOf_4cfef_28 : decode cJ1_indexOf_4cfef 28 = .ok (.ireturn, 1) := by decide +kernel
theorem dJ1_indexOf_4cfef_29 : decode cJ1_indexOf_4cfef 29 = .ok (.aload_n 0, 1) := by decide +kernel
theorem dJ1_indexOf_4cfef_30 : decode cJ1_indexOf_4cfef 30 = .ok (.iload_n 1, 1) := by decide +kernel
theorem dJ1_indexOf_4cfef_31 : decode cJ1_indexOf_4cfef 31 = .ok (.iload_n 2, 1) := by decide +kernel
theorem dJ1_indexOf_4cfef_32 : decode cJ1_indexOf_4cfef 32 = .ok (.iload_n 3, 1) := by decide +kernel
theorem dJ1_indexOf_4cfef_33 : decode cJ1_indexOf_4cfef 33 = .ok (.invokestatic 95, 3) := by decide +kernel
theorem dJ1_indexOf_4cfef_36 : decode cJ1_indexOf_4cfef 36 = .ok (.ireturn, 1) := by decide +kernel
theorem dJ1_indexOfChar_4cfef_0 : decode cJ1_indexOfChar_4cfef 0 = .ok (.iload_n 1, 1) := by decide +kernel
theorem dJ1_indexOfChar_4cfef_1 : decode cJ1_indexOfChar_4cfef 1 = .ok (.i2b, 1) := by decide +kernel
theorem dJ1_indexOfChar_4cfef_2 : decode cJ1_indexOfChar_4cfef 2 = .ok (.istore 4, 2) := by decide +kernel
theorem dJ1_indexOfChar_4cfef_4 : decode cJ1_indexOfChar_4cfef 4 = .ok (.iload_n 2, 1) := by decide +kernel
theorem dJ1_indexOfChar_4cfef_5 : decode cJ1_indexOfChar_4cfef 5 = .ok (.istore 5, 2) := by decide +kernel
theorem dJ1_indexOfChar_4cfef_7 : decode cJ1_indexOfChar_4cfef 7 = .ok (.iload 5, 2) := by decide +kernel
theorem dJ1_indexOfChar_4cfef_9 : decode cJ1_indexOfChar_4cfef 9 = .ok (.iload_n 3, 1) := by decide +kernel
theorem dJ1_indexOfChar_4cfef_10 : decode cJ1_indexOfChar_4cfef 10 = .ok (.if_icmp .ge 21, 3) := by decide +kernel
theorem dJ1_indexOfChar_4cfef_13 : decode cJ1_indexOfChar_4cfef 13 = .ok (.aload_n 0, 1) := by decide +kernel
theorem dJ1_indexOfChar_4cfef_14 : decode cJ1_indexOfChar_4cfef 14 = .ok (.iload 5, 2) := by decide +kernel
theorem dJ1_indexOfChar_4cfef_16 : decode cJ1_indexOfChar_4cfef 16 = .ok (.baload, 1) := by decide +kernel
theorem dJ1_indexOfChar_4cfef_17 : decode cJ1_indexOfChar_4cfef 17 = .ok (.iload 4, 2) := by decide +kernel
theorem dJ1_indexOfChar_4cfef_19 : decode cJ1_indexOfChar_4cfef 19 = .ok (.if_icmp .ne 6, 3) := by decide +kernel
theorem dJ1_indexOfChar_4cfef_22 : decode cJ1_indexOfChar_4cfef 22 = .ok (.iload 5, 2) := by decide +kernel
theorem dJ1_indexOfChar_4cfef_24 : decode cJ1_indexOfChar_4cfef 24 = .ok (.ireturn, 1) := by decide +kernel
theorem dJ1_indexOfChar_4cfef_25 : decode cJ1_indexOfChar_4cfef 25 = .ok (.iinc 5 1, 3) := by decide +kernel
theorem dJ1_indexOfChar_4cfef_28 : decode cJ1_indexOfChar_4cfef 28 = .ok (.goto (-21), 3) := by decide +kernel
theorem dJ1_indexOfChar_4cfef_31 : decode cJ1_indexOfChar_4cfef 31 = .ok (.iconst (-1), 1) := by decide +kernel
theorem dJ1_indexOfChar_4cfef_32 : decode cJ1_indexOfChar_4cfef 32 = .ok (.ireturn, 1) := by decide +kernel
theorem dJ2_getChar_3b067_0 : decode cJ2_getChar_3b067 0 = .ok (.getstatic 44, 3) := by decide +kernel
theorem dJ2_getChar_3b067_3 : decode cJ2_getChar_3b067 3 = .ok (.ifCond .ne 25, 3) := by decide +kernel
theorem dJ2_getChar_3b067_6 : decode cJ2_getChar_3b067 6 = .ok (.iload_n 1, 1) := by decide +kernel
theorem dJ2_getChar_3b067_7 : decode cJ2_getChar_3b067 7 = .ok (.ifCond .lt 11, 3) := by decide +kernel
theorem dJ2_getChar_3b067_10 : decode cJ2_getChar_3b067 10 = .ok (.iload_n 1, 1) := by decide +kernel
theorem dJ2_getChar_3b067_11 : decode cJ2_getChar_3b067 11 = .ok (.aload_n 0, 1) := by decide +kernel
theorem dJ2_getChar_3b067_12 : decode cJ2_getChar_3b067 12 = .ok (.invokestatic 48, 3) := by decide +kernel
theorem dJ2_getChar_3b067_15 : decode cJ2_getChar_3b067 15 = .ok (.if_icmp .lt 13, 3) := by decide +kernel
theorem dJ2_getChar_3b067_18 : decode cJ2_getChar_3b067 18 = .ok (.new 52, 3) := by decide +kernel
theorem dJ2_getChar_3b067_21 : decode cJ2_getChar_3b067 21 = .ok (.dup, 1) := by decide +kernel
theorem dJ2_getChar_3b067_22 : decode cJ2_getChar_3b067 22 = .ok (.ldc 54, 2) := by decide +kernel
theorem dJ2_getChar_3b067_24 : decode cJ2_getChar_3b067 24 = .ok (.invokespecial 56, 3) := by decide +kernel
theorem dJ2_getChar_3b067_27 : decode cJ2_getChar_3b067 27 = .ok (.athrow, 1) := by decide +kernel
theorem dJ2_getChar_3b067_28 : decode cJ2_getChar_3b067 28 = .ok (.iload_n 1, 1) := by decide +kernel
theorem dJ2_getChar_3b067_29 : decode cJ2_getChar_3b067 29 = .ok (.iconst 1, 1) := by decide +kernel
theorem dJ2_getChar_3b067_30 : decode cJ2_getChar_3b067 30 = .ok (.ishl, 1) := by decide +kernel
theorem dJ2_getChar_3b067_31 : decode cJ2_getChar_3b067 31 = .ok (.istore_n 1, 1) := by decide +kernel
theorem dJ2_getChar_3b067_32 : decode cJ2_getChar_3b067 32 = .ok (.aload_n 0, 1) := by decide +kernel
theorem dJ2_getChar_3b067_33 : decode cJ2_getChar_3b067 33 = .ok (.iload_n 1, 1) := by decide +kernel
theorem dJ2_getChar_3b067_34 : decode cJ2_getChar_3b067 34 = .ok (.iinc 1 1, 3) := by decide +kernel
theorem dJ2_getChar_3b067_37 : decode cJ2_getChar_3b067 37 = .ok (.baload, 1) := by decide +kernel
theorem dJ2_getChar_3b067_38 : decode cJ2_getChar_3b067 38 = .ok (.sipush 255, 3) := by decide +kernel
theorem dJ2_getChar_3b067_41 : decode cJ2_getChar_3b067 41 = .ok (.iand, 1) := by decide +kernel
theorem dJ2_getChar_3b067_42 : decode cJ2_getChar_3b067 42 = .ok (.getstatic 59, 3) := by decide +kernel
theorem dJ2_getChar_3b067_45 : decode cJ2_getChar_3b067 45 = .ok (.ishl, 1) := by decide +kernel
theorem dJ2_getChar_3b067_46 : decode cJ2_getChar_3b067 46 = .ok (.aload_n 0, 1) := by decide +kernel
theorem dJ2_getChar_3b067_47 : decode cJ2_getChar_3b067 47 = .ok (.iload_n 1, 1) := by decide +kernel
theorem dJ2_getChar_3b067_48 : decode cJ2_getChar_3b067 48 = .ok (.baload, 1) := by decide +kernel
theorem dJ2_getChar_3b067_49 : decode cJ2_getChar_3b067 49 = .ok (.sipush 255, 3) := by decide +kernel
theorem dJ2_getChar_3b067_52 : decode cJ2_getChar_3b067 52 = .ok (.iand, 1) := by decide +kernel
theorem dJ2_getChar_3b067_53 : decode cJ2_getChar_3b067 53 = .ok (.getstatic 63, 3) := by decide +kernel
theorem dJ2_getChar_3b067_56 : decode cJ2_getChar_3b067 56 = .ok (.ishl, 1) := by decide +kernel
theorem dJ2_getChar_3b067_57 : decode cJ2_getChar_3b067 57 = .ok (.ior, 1) := by decide +kernel
theorem dJ2_getChar_3b067_58 : decode cJ2_getChar_3b067 58 = .ok (.i2c, 1) := by decide +kernel
theorem dJ2_getChar_3b067_59 : decode cJ2_getChar_3b067 59 = .ok (.ireturn, 1) := by decide +kernel
theorem dJ2_length_9d52b_0 : decode cJ2_length_9d52b 0 = .ok (.aload_n 0, 1) := by decide +kernel
theorem dJ2_length_9d52b_1 : decode cJ2_length_9d52b 1 = .ok (.arraylength, 1) := by decide +kernel
theorem dJ2_length_9d52b_2 : decode cJ2_length_9d52b 2 = .ok (.iconst 1, 1) := by decide +kernel
theorem dJ2_length_9d52b_3 : decode cJ2_length_9d52b 3 = .ok (.ishr, 1) := by decide +kernel
theorem dJ2_length_9d52b_4 : decode cJ2_length_9d52b 4 = .ok (.ireturn, 1) := by decide +kernel
theorem dJ2_indexOf_4cfef_0 : decode cJ2_indexOf_4cfef 0 = .ok (.iload_n 2, 1) := by decide +kernel
theorem dJ2_indexOf_4cfef_1 : decode cJ2_indexOf_4cfef 1 = .ok (.iconst 0, 1) := by decide +kernel
theorem dJ2_indexOf_4cfef_2 : decode cJ2_indexOf_4cfef 2 = .ok (.invokestatic 224, 3) := by decide +kernel
theorem dJ2_indexOf_4cfef_5 : decode cJ2_indexOf_4cfef 5 = .ok (.istore_n 2, 1) := by decide +kernel
theorem dJ2_indexOf_4cfef_6 : decode cJ2_indexOf_4cfef 6 = .ok (.iload_n 3, 1) := by decide +kernel
theorem dJ2_indexOf_4cfef_7 : decode cJ2_indexOf_4cfef 7 = .ok (.aload_n 0, 1) := by decide +kernel
theorem dJ2_indexOf_4cfef_8 : decode cJ2_indexOf_4cfef 8 = .ok (.arraylength, 1) := by decide +kernel
theorem dJ2_indexOf_4cfef_9 : decode cJ2_indexOf_4cfef 9 = .ok (.iconst 1, 1) := by decide +kernel
theorem dJ2_indexOf_4cfef_10 : decode cJ2_indexOf_4cfef 10 = .ok (.ishr, 1) := by decide +kernel
theorem dJ2_indexOf_4cfef_11 : decode cJ2_indexOf_4cfef 11 = .ok (.invokestatic 183, 3) := by decide +kernel
theorem dJ2_indexOf_4cfef_14 : decode cJ2_indexOf_4cfef 14 = .ok (.istore_n 3, 1) := by decide +kernel
theorem dJ2_indexOf_4cfef_15 : decode cJ2_indexOf_4cfef 15 = .ok (.iload_n 2, 1) := by decide +kernel
theorem dJ2_indexOf_4cfef_16 : decode cJ2_indexOf_4cfef 16 = .ok (.iload_n 3, 1) := by decide +kernel
theorem dJ2_indexOf_4cfef_17 : decode cJ2_indexOf_4cfef 17 = .ok (.if_icmp .lt 5, 3) := by decide +kernel
theorem dJ2_indexOf_4cfef_20 : decode cJ2_indexOf_4cfef 20 = .ok (.iconst (-1), 1) := by decide +kernel
theorem dJ2_indexOf_4cfef_21 : decode cJ2_indexOf_4cfef 21 = .ok (.ireturn, 1) := by decide +kernel
theorem dJ2_indexOf_4cfef_22 : decode cJ2_indexOf_4cfef 22 = .ok (.iload_n 1, 1) := by decide +kernel
theorem dJ2_indexOf_4cfef_23 : decode cJ2_indexOf_4cfef 23 = .ok (.ldc 227, 2) := by decide +kernel
theorem dJ2_indexOf_4cfef_25 : decode cJ2_indexOf_4cfef 25 = .ok (.if_icmp .ge 11, 3) := by decide +kernel
theorem dJ2_indexOf_4cfef_28 : decode cJ2_indexOf_4cfef 28 = .ok (.aload_n 0, 1) := by decide +kernel
theorem dJ2_indexOf_4cfef_29 : decode cJ2_indexOf_4cfef 29 = .ok (.iload_n 1, 1) := by decide +kernel
theorem dJ2_indexOf_4cfef_30 : decode cJ2_indexOf_4cfef 30 = .ok (.iload_n 2, 1) := by decide +kernel
theorem dJ2_indexOf_4cfef_31 : decode cJ2_indexOf_4cfef 31 = .ok (.iload_n 3, 1) := by decide +kernel
theorem dJ2_indexOf_4cfef_32 : decode cJ2_indexOf_4cfef 32 = .ok (.invokestatic 228, 3) := by decide +kernel
theorem dJ2_indexOf_4cfef_35 : decode cJ2_indexOf_4cfef 35 = .ok (.ireturn, 1) := by decide +kernel
theorem dJ2_indexOf_4cfef_36 : decode cJ2_indexOf_4cfef 36 = .ok (.aload_n 0, 1) := by decide +kernel
theorem dJ2_indexOf_4cfef_37 : decode cJ2_indexOf_4cfef 37 = .ok (.iload_n 1, 1) := by decide +kernel
theorem dJ2_indexOf_4cfef_38 : decode cJ2_indexOf_4cfef 38 = .ok (.iload_n 2, 1) := by decide +kernel
theorem dJ2_indexOf_4cfef_39 : decode cJ2_indexOf_4cfef 39 = .ok (.iload_n 3, 1) := by decide +kernel
theorem dJ2_indexOf_4cfef_40 : decode cJ2_indexOf_4cfef 40 = .ok (.invokestatic 232, 3) := by decide +kernel
theorem dJ2_indexOf_4cfef_43 : decode cJ2_indexOf_4cfef 43 = .ok (.ireturn, 1) := by decide +kernel
theorem dJ2_indexOfChar_4cfef_0 : decode cJ2_indexOfChar_4cfef 0 = .ok (.iload_n 2, 1) := by decide +kernel
theorem dJ2_indexOfChar_4cfef_1 : decode cJ2_indexOfChar_4cfef 1 = .ok (.iload_n 3, 1) := by decide +kernel
theorem dJ2_indexOfChar_4cfef_2 : decode cJ2_indexOfChar_4cfef 2 = .ok (.aload_n 0, 1) := by decide +kernel
theorem dJ2_indexOfChar_4cfef_3 : decode cJ2_indexOfChar_4cfef 3 = .ok (.invokestatic 96, 3) := by decide +kernel
theorem dJ2_indexOfChar_4cfef_6 : decode cJ2_indexOfChar_4cfef 6 = .ok (.aload_n 0, 1) := by decide +kernel
theorem dJ2_indexOfChar_4cfef_7 : decode cJ2_indexOfChar_4cfef 7 = .ok (.iload_n 1, 1) := by decide +kernel
theorem dJ2_indexOfChar_4cfef_8 : decode cJ2_indexOfChar_4cfef 8 = .ok (.iload_n 2, 1) := by decide +kernel
theorem dJ2_indexOfChar_4cfef_9 : decode cJ2_indexOfChar_4cfef 9 = .ok (.iload_n 3, 1) := by decide +kernel
theorem dJ2_indexOfChar_4cfef_10 : decode cJ2_indexOfChar_4cfef 10 = .ok (.invokestatic 244, 3) := by decide +kernel
theorem dJ2_indexOfChar_4cfef_13 : decode cJ2_indexOfChar_4cfef 13 = .ok (.ireturn, 1) := by decide +kernel
theorem dJ2_indexOfCharUnsafe_4cfef_0 : decode cJ2_indexOfCharUnsafe_4cfef 0 = .ok (.iload_n 2, 1) := by decide +kernel
theorem dJ2_indexOfCharUnsafe_4cfef_1 : decode cJ2_indexOfCharUnsafe_4cfef 1 = .ok (.istore 4, 2) := by decide +kernel
theorem dJ2_indexOfCharUnsafe_4cfef_3 : decode cJ2_indexOfCharUnsafe_4cfef 3 = .ok (.iload 4, 2) := by decide +kernel
theorem dJ2_indexOfCharUnsafe_4cfef_5 : decode cJ2_indexOfCharUnsafe_4cfef 5 = .ok (.iload_n 3, 1) := by decide +kernel
theorem dJ2_indexOfCharUnsafe_4cfef_6 : decode cJ2_indexOfCharUnsafe_4cfef 6 = .ok (.if_icmp .ge 22, 3) := by decide +kernel
theorem dJ2_indexOfCharUnsafe_4cfef_9 : decode cJ2_indexOfCharUnsafe_4cfef 9 = .ok (.aload_n 0, 1) := by decide +kernel
theorem dJ2_indexOfCharUnsafe_4cfef_10 : decode cJ2_indexOfCharUnsafe_4cfef 10 = .ok (.iload 4, 2) := by decide +kernel
theorem dJ2_indexOfCharUnsafe_4cfef_12 : decode cJ2_indexOfCharUnsafe_4cfef 12 = .ok (.invokestatic 71, 3) := by decide +kernel
theorem dJ2_indexOfCharUnsafe_4cfef_15 : decode cJ2_indexOfCharUnsafe_4cfef 15 = .ok (.iload_n 1, 1) := by decide +kernel
theorem dJ2_indexOfCharUnsafe_4cfef_16 : decode cJ2_indexOfCharUnsafe_4cfef 16 = .ok (.if_icmp .ne 6, 3) := by decide +kernel
theorem dJ2_indexOfCharUnsafe_4cfef_19 : decode cJ2_indexOfCharUnsafe_4cfef 19 = .ok (.iload 4, 2) := by decide +kernel
theorem dJ2_indexOfCharUnsafe_4cfef_21 : decode cJ2_indexOfCharUnsafe_4cfef 21 = .ok (.ireturn, 1) := by decide +kernel
theorem dJ2_indexOfCharUnsafe_4cfef_22 : decode cJ2_indexOfCharUnsafe_4cfef 22 = .ok (.iinc 4 1, 3) := by decide +kernel
theorem dJ2_indexOfCharUnsafe_4cfef_25 : decode cJ2_indexOfCharUnsafe_4cfef 25 = .ok (.goto (-22), 3) := by decide +kernel
theorem dJ2_indexOfCharUnsafe_4cfef_28 : decode cJ2_indexOfCharUnsafe_4cfef 28 = .ok (.iconst (-1), 1) := by decide +kernel
theorem dJ2_indexOfCharUnsafe_4cfef_29 : decode cJ2_indexOfCharUnsafe_4cfef 29 = .ok (.ireturn, 1) := by decide +kernel
theorem dJ2_indexOfSupplementary_4cfef_0 : decode cJ2_indexOfSupplementary_4cfef 0 = .ok (.iload_n 1, 1) := by decide +kernel
theorem dJ2_indexOfSupplementary_4cfef_1 : decode cJ2_indexOfSupplementary_4cfef 1 = .ok (.invokestatic 164, 3) := by decide +kernel
theorem dJ2_indexOfSupplementary_4cfef_4 : decode cJ2_indexOfSupplementary_4cfef 4 = .ok (.ifCond .eq 65, 3) := by decide +kernel
theorem dJ2_indexOfSupplementary_4cfef_7 : decode cJ2_indexOfSupplementary_4cfef 7 = .ok (.iload_n 1, 1) := by decide +kernel
theorem dJ2_indexOfSupplementary_4cfef_8 : decode cJ2_indexOfSupplementary_4cfef 8 = .ok (.invokestatic 157, 3) := by decide +kernel
theorem dJ2_indexOfSupplementary_4cfef_11 : decode cJ2_indexOfSupplementary_4cfef 11 = .ok (.istore 4, 2) := by decide +kernel
theorem dJ2_indexOfSupplementary_4cfef_13 : decode cJ2_indexOfSupplementary_4cfef 13 = .ok (.iload_n 1, 1) := by decide +kernel
theorem dJ2_indexOfSupplementary_4cfef_14 : decode cJ2_indexOfSupplementary_4cfef 14 = .ok (.invokestatic 161, 3) := by decide +kernel
theorem dJ2_indexOfSupplementary_4cfef_17 : decode cJ2_indexOfSupplementary_4cfef 17 = .ok (.istore 5, 2) := by decide +kernel
theorem dJ2_indexOfSupplementary_4cfef_19 : decode cJ2_indexOfSupplementary_4cfef 19 = .ok (.iload_n 2, 1) := by decide +kernel
theorem dJ2_indexOfSupplementary_4cfef_20 : decode cJ2_indexOfSupplementary_4cfef 20 = .ok (.iload_n 3, 1) := by decide +kernel
theorem dJ2_indexOfSupplementary_4cfef_21 : decode cJ2_indexOfSupplementary_4cfef 21 = .ok (.aload_n 0, 1) := by decide +kernel
theorem dJ2_indexOfSupplementary_4cfef_22 : decode cJ2_indexOfSupplementary_4cfef 22 = .ok (.invokestatic 96, 3) := by decide +kernel
theorem dJ2_indexOfSupplementary_4cfef_25 : decode cJ2_indexOfSupplementary_4cfef 25 = .ok (.iload_n 2, 1) := by decide +kernel
theorem dJ2_indexOfSupplementary_4cfef_26 : decode cJ2_indexOfSupplementary_4cfef 26 = .ok (.istore 6, 2) := by decide +kernel
theorem dJ2_indexOfSupplementary_4cfef_28 : decode cJ2_indexOfSupplementary_4cfef 28 = .ok (.iload 6, 2) := by decide +kernel
theorem dJ2_indexOfSupplementary_4cfef_30 : decode cJ2_indexOfSupplementary_4cfef 30 = .ok (.iload_n 3, 1) := by decide +kernel
theorem dJ2_indexOfSupplementary_4cfef_31 : decode cJ2_indexOfSupplementary_4cfef 31 = .ok (.iconst 1, 1) := by decide +kernel
theorem dJ2_indexOfSupplementary_4cfef_32 : decode cJ2_indexOfSupplementary_4cfef 32 = .ok (.isub, 1) := by decide +kernel
theorem dJ2_indexOfSupplementary_4cfef_33 : decode cJ2_indexOfSupplementary_4cfef 33 = .ok (.if_icmp .ge 36, 3) := by decide +kernel
theorem dJ2_indexOfSupplementary_4cfef_36 : decode cJ2_indexOfSupplementary_4cfef 36 = .ok (.aload_n 0, 1) := by decide +kernel
theorem dJ2_indexOfSupplementary_4cfef_37 : decode cJ2_indexOfSupplementary_4cfef 37 = .ok (.iload 6, 2) := by decide +kernel
theorem dJ2_indexOfSupplementary_4cfef_39 : decode cJ2_indexOfSupplementary_4cfef 39 = .ok (.invokestatic 71, 3) := by decide +kernel
theorem dJ2_indexOfSupplementary_4cfef_42 : decode cJ2_indexOfSupplementary_4cfef 42 = .ok (.iload 4, 2) := by decide +kernel
theorem dJ2_indexOfSupplementary_4cfef_44 : decode cJ2_indexOfSupplementary_4cfef 44 = .ok (.if_icmp .ne 19, 3) := by decide +kernel
theorem dJ2_indexOfSupplementary_4cfef_47 : decode cJ2_indexOfSupplementary_4cfef 47 = .ok (.aload_n 0, 1) := by decide +kernel
theorem dJ2_indexOfSupplementary_4cfef_48 : decode cJ2_indexOfSupplementary_4cfef 48 = .ok (.iload 6, 2) := by decide +kernel
theorem dJ2_indexOfSupplementary_4cfef_50 : decode cJ2_indexOfSupplementary_4cfef 50 = .ok (.iconst 1, 1) := by decide +kernel
theorem dJ2_indexOfSupplementary_4cfef_51 : decode cJ2_indexOfSupplementary_4cfef 51 = .ok (.iadd, 1) := by decide +kernel
theorem dJ2_indexOfSupplementary_4cfef_52 : decode cJ2_indexOfSupplementary_4cfef 52 = .ok (.invokestatic 71, 3) := by decide +kernel
theorem dJ2_indexOfSupplementary_4cfef_55 : decode cJ2_indexOfSupplementary_4cfef 55 = .ok (.iload 5, 2) := by decide +kernel
theorem dJ2_indexOfSupplementary_4cfef_57 : decode cJ2_indexOfSupplementary_4cfef 57 = .ok (.if_icmp .ne 6, 3) := by decide +kernel
theorem dJ2_indexOfSupplementary_4cfef_60 : decode cJ2_indexOfSupplementary_4cfef 60 = .ok (.iload 6, 2) := by decide +kernel
theorem dJ2_indexOfSupplementary_4cfef_62 : decode cJ2_indexOfSupplementary_4cfef 62 = .ok (.ireturn, 1) := by decide +kernel
theorem dJ2_indexOfSupplementary_4cfef_63 : decode cJ2_indexOfSupplementary_4cfef 63 = .ok (.iinc 6 1, 3) := by decide +kernel
theorem dJ2_indexOfSupplementary_4cfef_66 : decode cJ2_indexOfSupplementary_4cfef 66 = .ok (.goto (-38), 3) := by decide +kernel
theorem dJ2_indexOfSupplementary_4cfef_69 : decode cJ2_indexOfSupplementary_4cfef 69 = .ok (.iconst (-1), 1) := by decide +kernel
theorem dJ2_indexOfSupplementary_4cfef_70 : decode cJ2_indexOfSupplementary_4cfef 70 = .ok (.ireturn, 1) := by decide +kernel
theorem dJ2_charAt_3b067_0 : decode cJ2_charAt_3b067 0 = .ok (.iload_n 1, 1) := by decide +kernel
theorem dJ2_charAt_3b067_1 : decode cJ2_charAt_3b067 1 = .ok (.aload_n 0, 1) := by decide +kernel
theorem dJ2_charAt_3b067_2 : decode cJ2_charAt_3b067 2 = .ok (.invokestatic 67, 3) := by decide +kernel
theorem dJ2_charAt_3b067_5 : decode cJ2_charAt_3b067 5 = .ok (.aload_n 0, 1) := by decide +kernel
theorem dJ2_charAt_3b067_6 : decode cJ2_charAt_3b067 6 = .ok (.iload_n 1, 1) := by decide +kernel
theorem dJ2_charAt_3b067_7 : decode cJ2_charAt_3b067 7 = .ok (.invokestatic 71, 3) := by decide +kernel
theorem dJ2_charAt_3b067_10 : decode cJ2_charAt_3b067 10 = .ok (.ireturn, 1) := by decide +kernel
theorem dJ2_checkIndex_2214a_0 : decode cJ2_checkIndex_2214a 0 = .ok (.iload_n 0, 1) := by decide +kernel
theorem dJ2_checkIndex_2214a_1 : decode cJ2_checkIndex_2214a 1 = .ok (.aload_n 1, 1) := by decide +kernel
theorem dJ2_checkIndex_2214a_2 : decode cJ2_checkIndex_2214a 2 = .ok (.invokestatic 48, 3) := by decide +kernel
theorem dJ2_checkIndex_2214a_5 : decode cJ2_checkIndex_2214a 5 = .ok (.invokestatic 414, 3) := by decide +kernel
theorem dJ2_checkIndex_2214a_8 : decode cJ2_checkIndex_2214a 8 = .ok (.return_, 1) := by decide +kernel
theorem dJ2_checkBoundsBeginEnd_d044e_0 : decode cJ2_checkBoundsBeginEnd_d044e 0 = .ok (.iload_n 0, 1) := by decide +kernel
theorem dJ2_checkBoundsBeginEnd_d044e_1 : decode cJ2_checkBoundsBeginEnd_d044e 1 = .ok (.iload_n 1, 1) := by decide +kernel
theorem dJ2_checkBoundsBeginEnd_d044e_2 : decode cJ2_checkBoundsBeginEnd_d044e 2 = .ok (.aload_n 2, 1) := by decide +kernel
theorem dJ2_checkBoundsBeginEnd_d044e_3 : decode cJ2_checkBoundsBeginEnd_d044e 3 = .ok (.invokestatic 48, 3) := by decide +kernel
theorem dJ2_checkBoundsBeginEnd_d044e_6 : decode cJ2_checkBoundsBeginEnd_d044e 6 = .ok (.invokestatic 241, 3) := by decide +kernel
theorem dJ2_checkBoundsBeginEnd_d044e_9 : decode cJ2_checkBoundsBeginEnd_d044e 9 = .ok (.return_, 1) := by decide +kernel
theorem dJ3_checkIndex_8e157_0 : decode cJ3_checkIndex_8e157 0 = .ok (.iload_n 0, 1) := by decide +kernel
theorem dJ3_checkIndex_8e157_1 : decode cJ3_checkIndex_8e157 1 = .ok (.ifCond .lt 8, 3) := by decide +kernel
theorem dJ3_checkIndex_8e157_4 : decode cJ3_checkIndex_8e157 4 = .ok (.iload_n 0, 1) := by decide +kernel
theorem dJ3_checkIndex_8e157_5 : decode cJ3_checkIndex_8e157 5 = .ok (.iload_n 1, 1) := by decide +kernel
theorem dJ3_checkIndex_8e157_6 : decode cJ3_checkIndex_8e157 6 = .ok (.if_icmp .lt 10, 3) := by decide +kernel
theorem dJ3_checkIndex_8e157_9 : decode cJ3_checkIndex_8e157 9 = .ok (.aload_n 2, 1) := by decide +kernel
theorem dJ3_checkIndex_8e157_10 : decode cJ3_checkIndex_8e157 10 = .ok (.iload_n 0, 1) := by decide +kernel
theorem dJ3_checkIndex_8e157_11 : decode cJ3_checkIndex_8e157 11 = .ok (.iload_n 1, 1) := by decide +kernel
theorem dJ3_checkIndex_8e157_12 : decode cJ3_checkIndex_8e157 12 = .ok (.invokestatic 95, 3) := by decide +kernel
theorem dJ3_checkIndex_8e157_15 : decode cJ3_checkIndex_8e157 15 = .ok (.athrow, 1) := by decide +kernel
theorem dJ3_checkIndex_8e157_16 : decode cJ3_checkIndex_8e157 16 = .ok (.iload_n 0, 1) := by decide +kernel
theorem dJ3_checkIndex_8e157_17 : decode cJ3_checkIndex_8e157 17 = .ok (.ireturn, 1) := by decide +kernel
theorem dJ3_checkFromToIndex_8c36e_0 : decode cJ3_checkFromToIndex_8c36e 0 = .ok (.iload_n 0, 1) := by decide +kernel
theorem dJ3_checkFromToIndex_8c36e_1 : decode cJ3_checkFromToIndex_8c36e 1 = .ok (.ifCond .lt 13, 3) := by decide +kernel
theorem dJ3_checkFromToIndex_8c36e_4 : decode cJ3_checkFromToIndex_8c36e 4 = .ok (.iload_n 0, 1) := by decide +kernel
theorem dJ3_checkFromToIndex_8c36e_5 : decode cJ3_checkFromToIndex_8c36e 5 = .ok (.iload_n 1, 1) := by decide +kernel
theorem dJ3_checkFromToIndex_8c36e_6 : decode cJ3_checkFromToIndex_8c36e 6 = .ok (.if_icmp .gt 8, 3) := by decide +kernel
theorem dJ3_checkFromToIndex_8c36e_9 : decode cJ3_checkFromToIndex_8c36e 9 = .ok (.iload_n 1, 1) := by decide +kernel
theorem dJ3_checkFromToIndex_8c36e_10 : decode cJ3_checkFromToIndex_8c36e 10 = .ok (.iload_n 2, 1) := by decide +kernel
theorem dJ3_checkFromToIndex_8c36e_11 : decode cJ3_checkFromToIndex_8c36e 11 = .ok (.if_icmp .le 11, 3) := by decide +kernel
theorem dJ3_checkFromToIndex_8c36e_14 : decode cJ3_checkFromToIndex_8c36e 14 = .ok (.aload_n 3, 1) := by decide +kernel
theorem dJ3_checkFromToIndex_8c36e_15 : decode cJ3_checkFromToIndex_8c36e 15 = .ok (.iload_n 0, 1) := by decide +kernel
theorem dJ3_checkFromToIndex_8c36e_16 : decode cJ3_checkFromToIndex_8c36e 16 = .ok (.iload_n 1, 1) := by decide +kernel
theorem dJ3_checkFromToIndex_8c36e_17 : decode cJ3_checkFromToIndex_8c36e 17 = .ok (.iload_n 2, 1) := by decide +kernel
theorem dJ3_checkFromToIndex_8c36e_18 : decode cJ3_checkFromToIndex_8c36e 18 = .ok (.invokestatic 99, 3) := by decide +kernel
theorem dJ3_checkFromToIndex_8c36e_21 : decode cJ3_checkFromToIndex_8c36e 21 = .ok (.athrow, 1) := by decide +kernel
theorem dJ3_checkFromToIndex_8c36e_22 : decode cJ3_checkFromToIndex_8c36e 22 = .ok (.iload_n 0, 1) := by decide +kernel
theorem dJ3_checkFromToIndex_8c36e_23 : decode cJ3_checkFromToIndex_8c36e 23 = .ok (.ireturn, 1) := by decide +kernel
theorem dJ11_isValidCodePoint_9a6ad_0 : decode cJ11_isValidCodePoint_9a6ad 0 = .ok (.iload_n 0, 1) := by decide +kernel
theorem dJ11_isValidCodePoint_9a6ad_1 : decode cJ11_isValidCodePoint_9a6ad 1 = .ok (.bipush 16, 2) := by decide +kernel
theorem dJ11_isValidCodePoint_9a6ad_3 : decode cJ11_isValidCodePoint_9a6ad 3 = .ok (.iushr, 1) := by decide +kernel
theorem dJ11_isValidCodePoint_9a6ad_4 : decode cJ11_isValidCodePoint_9a6ad 4 = .ok (.istore_n 1, 1) := by decide +kernel
theorem dJ11_isValidCodePoint_9a6ad_5 : decode cJ11_isValidCodePoint_9a6ad 5 = .ok (.iload_n 1, 1) := by decide +kernel
theorem dJ11_isValidCodePoint_9a6ad_6 : decode cJ11_isValidCodePoint_9a6ad 6 = .ok (.bipush 17, 2) := by decide +kernel
theorem dJ11_isValidCodePoint_9a6ad_8 : decode cJ11_isValidCodePoint_9a6ad 8 = .ok (.if_icmp .ge 7, 3) := by decide +kernel
theorem dJ11_isValidCodePoint_9a6ad_11 : decode cJ11_isValidCodePoint_9a6ad 11 = .ok (.iconst 1, 1) := by decide +kernel
theorem dJ11_isValidCodePoint_9a6ad_12 : decode cJ11_isValidCodePoint_9a6ad 12 = .ok (.goto 4, 3) := by decide +kernel
theorem dJ11_isValidCodePoint_9a6ad_15 : decode cJ11_isValidCodePoint_9a6ad 15 = .ok (.iconst 0, 1) := by decide +kernel
theorem dJ11_isValidCodePoint_9a6ad_16 : decode cJ11_isValidCodePoint_9a6ad 16 = .ok (.ireturn, 1) := by decide +kernel
theorem dJ11_highSurrogate_5068e_0 : decode cJ11_highSurrogate_5068e 0 = .ok (.iload_n 0, 1) := by decide +kernel
theorem dJ11_highSurrogate_5068e_1 : decode cJ11_highSurrogate_5068e 1 = .ok (.bipush 10, 2) := by decide +kernel
theorem dJ11_highSurrogate_5068e_3 : decode cJ11_highSurrogate_5068e 3 = .ok (.iushr, 1) := by decide +kernel
theorem dJ11_highSurrogate_5068e_4 : decode cJ11_highSurrogate_5068e 4 = .ok (.ldc 110, 2) := by decide +kernel
theorem dJ11_highSurrogate_5068e_6 : decode cJ11_highSurrogate_5068e 6 = .ok (.iadd, 1) := by decide +kernel
theorem dJ11_highSurrogate_5068e_7 : decode cJ11_highSurrogate_5068e 7 = .ok (.i2c, 1) := by decide +kernel
theorem dJ11_highSurrogate_5068e_8 : decode cJ11_highSurrogate_5068e 8 = .ok (.ireturn, 1) := by decide +kernel
theorem dJ11_lowSurrogate_5068e_0 : decode cJ11_lowSurrogate_5068e 0 = .ok (.iload_n 0, 1) := by decide +kernel
theorem dJ11_lowSurrogate_5068e_1 : decode cJ11_lowSurrogate_5068e 1 = .ok (.sipush 1023, 3) := by decide +kernel
theorem dJ11_lowSurrogate_5068e_4 : decode cJ11_lowSurrogate_5068e 4 = .ok (.iand, 1) := by decide +kernel
theorem dJ11_lowSurrogate_5068e_5 : decode cJ11_lowSurrogate_5068e 5 = .ok (.ldc 76, 2) := by decide +kernel
theorem dJ11_lowSurrogate_5068e_7 : decode cJ11_lowSurrogate_5068e 7 = .ok (.iadd, 1) := by decide +kernel
theorem dJ11_lowSurrogate_5068e_8 : decode cJ11_lowSurrogate_5068e 8 = .ok (.i2c, 1) := by decide +kernel
theorem dJ11_lowSurrogate_5068e_9 : decode cJ11_lowSurrogate_5068e 9 = .ok (.ireturn, 1) := by decide +kernel
theorem dL_law_0 : decode cL_law 0 = .ok (.new 7, 3) := by decide +kernel
theorem dL_law_3 : decode cL_law 3 = .ok (.dup, 1) := by decide +kernel
theorem dL_law_4 : decode cL_law 4 = .ok (.invokespecial 9, 3) := by decide +kernel
theorem dL_law_7 : decode cL_law 7 = .ok (.astore_n 1, 1) := by decide +kernel
theorem dL_law_8 : decode cL_law 8 = .ok (.new 10, 3) := by decide +kernel
theorem dL_law_11 : decode cL_law 11 = .ok (.dup, 1) := by decide +kernel
theorem dL_law_12 : decode cL_law 12 = .ok (.invokespecial 12, 3) := by decide +kernel
theorem dL_law_15 : decode cL_law 15 = .ok (.astore_n 2, 1) := by decide +kernel
theorem dL_law_16 : decode cL_law 16 = .ok (.iconst 0, 1) := by decide +kernel
theorem dL_law_17 : decode cL_law 17 = .ok (.istore_n 3, 1) := by decide +kernel
theorem dL_law_18 : decode cL_law 18 = .ok (.iload_n 3, 1) := by decide +kernel
theorem dL_law_19 : decode cL_law 19 = .ok (.aload_n 0, 1) := by decide +kernel
theorem dL_law_20 : decode cL_law 20 = .ok (.arraylength, 1) := by decide +kernel
theorem dL_law_21 : decode cL_law 21 = .ok (.bipush 6, 2) := by decide +kernel
theorem dL_law_23 : decode cL_law 23 = .ok (.isub, 1) := by decide +kernel
theorem dL_law_24 : decode cL_law 24 = .ok (.if_icmp .gt 1374, 3) := by decide +kernel
theorem dL_law_27 : decode cL_law 27 = .ok (.aload_n 0, 1) := by decide +kernel
theorem dL_law_28 : decode cL_law 28 = .ok (.iload_n 3, 1) := by decide +kernel
theorem dL_law_29 : decode cL_law 29 = .ok (.iaload, 1) := by decide +kernel
theorem dL_law_30 : decode cL_law 30 = .ok (.bipush 63, 2) := by decide +kernel
theorem dL_law_32 : decode cL_law 32 = .ok (.iand, 1) := by decide +kernel
theorem dL_law_33 : decode cL_law 33 = .ok (.tableswitch 1359 0 41 #[183, 226, 249, 282, 315, 348, 381, 404, 427, 460, 493, 516, 539, 562, 585, 608, 631, 654, 687, 700, 733, 756, 769, 792, 835, 858, 871, 904, 927, 970, 1013, 1036, 1059, 1122, 1165, 1198, 1231, 1264, 1287, 1310, 1323, 1336], 183) := by decide +kernel
theorem dL_law_216 : decode cL_law 216 = .ok (.aload_n 1, 1) := by decide +kernel
theorem dL_law_217 : decode cL_law 217 = .ok (.aload_n 0, 1) := by decide +kernel
theorem dL_law_218 : decode cL_law 218 = .ok (.iload_n 3, 1) := by decide +kernel
theorem dL_law_219 : decode cL_law 219 = .ok (.iconst 1, 1) := by decide +kernel
theorem dL_law_220 : decode cL_law 220 = .ok (.iadd, 1) := by decide +kernel
theorem dL_law_221 : decode cL_law 221 = .ok (.iaload, 1) := by decide +kernel
theorem dL_law_222 : decode cL_law 222 = .ok (.aload_n 0, 1) := by decide +kernel
theorem dL_law_223 : decode cL_law 223 = .ok (.iload_n 3, 1) := by decide +kernel
theorem dL_law_224 : decode cL_law 224 = .ok (.iconst 2, 1) := by decide +kernel
theorem dL_law_225 : decode cL_law 225 = .ok (.iadd, 1) := by decide +kernel
theorem dL_law_226 : decode cL_law 226 = .ok (.iaload, 1) := by decide +kernel
theorem dL_law_227 : decode cL_law 227 = .ok (.aload_n 0, 1) := by decide +kernel
theorem dL_law_228 : decode cL_law 228 = .ok (.iload_n 3, 1) := by decide +kernel
theorem dL_law_229 : decode cL_law 229 = .ok (.iconst 3, 1) := by decide +kernel
theorem dL_law_230 : decode cL_law 230 = .ok (.iadd, 1) := by decide +kernel
theorem dL_law_231 : decode cL_law 231 = .ok (.iaload, 1) := by decide +kernel
theorem dL_law_232 : decode cL_law 232 = .ok (.invokevirtual 13, 3) := by decide +kernel
theorem dL_law_235 : decode cL_law 235 = .ok (.aload_n 2, 1) := by decide +kernel
theorem dL_law_236 : decode cL_law 236 = .ok (.aload_n 0, 1) := by decide +kernel
theorem dL_law_237 : decode cL_law 237 = .ok (.iload_n 3, 1) := by decide +kernel
theorem dL_law_238 : decode cL_law 238 = .ok (.iconst 1, 1) := by decide +kernel
theorem dL_law_239 : decode cL_law 239 = .ok (.iadd, 1) := by decide +kernel
theorem dL_law_240 : decode cL_law 240 = .ok (.iaload, 1) := by decide +kernel
theorem dL_law_241 : decode cL_law 241 = .ok (.aload_n 0, 1) := by decide +kernel
theorem dL_law_242 : decode cL_law 242 = .ok (.iload_n 3, 1) := by decide +kernel
theorem dL_law_243 : decode cL_law 243 = .ok (.iconst 2, 1) := by decide +kernel
theorem dL_law_244 : decode cL_law 244 = .ok (.iadd, 1) := by decide +kernel
theorem dL_law_245 : decode cL_law 245 = .ok (.iaload, 1) := by decide +kernel
theorem dL_law_246 : decode cL_law 246 = .ok (.aload_n 0, 1) := by decide +kernel
theorem dL_law_247 : decode cL_law 247 = .ok (.iload_n 3, 1) := by decide +kernel
theorem dL_law_248 : decode cL_law 248 = .ok (.iconst 3, 1) := by decide +kernel
theorem dL_law_249 : decode cL_law 249 = .ok (.iadd, 1) := by decide +kernel
theorem dL_law_250 : decode cL_law 250 = .ok (.iaload, 1) := by decide +kernel
theorem dL_law_251 : decode cL_law 251 = .ok (.invokevirtual 17, 3) := by decide +kernel
theorem dL_law_254 : decode cL_law 254 = .ok (.if_icmp .eq 1138, 3) := by decide +kernel
theorem dL_law_257 : decode cL_law 257 = .ok (.iconst 0, 1) := by decide +kernel
theorem dL_law_258 : decode cL_law 258 = .ok (.ireturn, 1) := by decide +kernel
theorem dL_law_259 : decode cL_law 259 = .ok (.aload_n 1, 1) := by decide +kernel
theorem dL_law_260 : decode cL_law 260 = .ok (.aload_n 0, 1) := by decide +kernel
theorem dL_law_261 : decode cL_law 261 = .ok (.iload_n 3, 1) := by decide +kernel
theorem dL_law_262 : decode cL_law 262 = .ok (.iconst 1, 1) := by decide +kernel
theorem dL_law_263 : decode cL_law 263 = .ok (.iadd, 1) := by decide +kernel
theorem dL_law_264 : decode cL_law 264 = .ok (.iaload, 1) := by decide +kernel
theorem dL_law_265 : decode cL_law 265 = .ok (.invokevirtual 18, 3) := by decide +kernel
theorem dL_law_268 : decode cL_law 268 = .ok (.aload_n 2, 1) := by decide +kernel
theorem dL_law_269 : decode cL_law 269 = .ok (.aload_n 0, 1) := by decide +kernel
theorem dL_law_270 : decode cL_law 270 = .ok (.iload_n 3, 1) := by decide +kernel
theorem dL_law_271 : decode cL_law 271 = .ok (.iconst 1, 1) := by decide +kernel
theorem dL_law_272 : decode cL_law 272 = .ok (.iadd, 1) := by decide +kernel
theorem dL_law_273 : decode cL_law 273 = .ok (.iaload, 1) := by decide +kernel
theorem dL_law_274 : decode cL_law 274 = .ok (.invokevirtual 22, 3) := by decide +kernel
theorem dL_law_277 : decode cL_law 277 = .ok (.if_icmp .eq 1115, 3) := by decide +kernel
theorem dL_law_280 : decode cL_law 280 = .ok (.iconst 0, 1) := by decide +kernel
theorem dL_law_281 : decode cL_law 281 = .ok (.ireturn, 1) := by decide +kernel
theorem dL_law_282 : decode cL_law 282 = .ok (.aload_n 1, 1) := by decide +kernel
theorem dL_law_283 : decode cL_law 283 = .ok (.aload_n 0, 1) := by decide +kernel
theorem dL_law_284 : decode cL_law 284 = .ok (.iload_n 3, 1) := by decide +kernel
theorem dL_law_285 : decode cL_law 285 = .ok (.iconst 1, 1) := by decide +kernel
theorem dL_law_286 : decode cL_law 286 = .ok (.iadd, 1) := by decide +kernel
theorem dL_law_287 : decode cL_law 287 = .ok (.iaload, 1) := by decide +kernel
theorem dL_law_288 : decode cL_law 288 = .ok (.aload_n 0, 1) := by decide +kernel
theorem dL_law_289 : decode cL_law 289 = .ok (.iload_n 3, 1) := by decide +kernel
theorem dL_law_290 : decode cL_law 290 = .ok (.iconst 2, 1) := by decide +kernel
theorem dL_law_291 : decode cL_law 291 = .ok (.iadd, 1) := by decide +kernel
theorem dL_law_292 : decode cL_law 292 = .ok (.iaload, 1) := by decide +kernel
theorem dL_law_293 : decode cL_law 293 = .ok (.invokevirtual 23, 3) := by decide +kernel
theorem dL_law_296 : decode cL_law 296 = .ok (.aload_n 2, 1) := by decide +kernel
theorem dL_law_297 : decode cL_law 297 = .ok (.aload_n 0, 1) := by decide +kernel
theorem dL_law_298 : decode cL_law 298 = .ok (.iload_n 3, 1) := by decide +kernel
theorem dL_law_299 : decode cL_law 299 = .ok (.iconst 1, 1) := by decide +kernel
theorem dL_law_300 : decode cL_law 300 = .ok (.iadd, 1) := by decide +kernel
theorem dL_law_301 : decode cL_law 301 = .ok (.iaload, 1) := by decide +kernel
theorem dL_law_302 : decode cL_law 302 = .ok (.aload_n 0, 1) := by decide +kernel
theorem dL_law_303 : decode cL_law 303 = .ok (.iload_n 3, 1) := by decide +kernel
theorem dL_law_304 : decode cL_law 304 = .ok (.iconst 2, 1) := by decide +kernel
theorem dL_law_305 : decode cL_law 305 = .ok (.iadd, 1) := by decide +kernel
theorem dL_law_306 : decode cL_law 306 = .ok (.iaload, 1) := by decide +kernel
theorem dL_law_307 : decode cL_law 307 = .ok (.invokevirtual 27, 3) := by decide +kernel
theorem dL_law_310 : decode cL_law 310 = .ok (.if_icmp .eq 1082, 3) := by decide +kernel
theorem dL_law_313 : decode cL_law 313 = .ok (.iconst 0, 1) := by decide +kernel
theorem dL_law_314 : decode cL_law 314 = .ok (.ireturn, 1) := by decide +kernel
theorem dL_law_315 : decode cL_law 315 = .ok (.aload_n 1, 1) := by decide +kernel
theorem dL_law_316 : decode cL_law 316 = .ok (.aload_n 0, 1) := by decide +kernel
theorem dL_law_317 : decode cL_law 317 = .ok (.iload_n 3, 1) := by decide +kernel
theorem dL_law_318 : decode cL_law 318 = .ok (.iconst 1, 1) := by decide +kernel
theorem dL_law_319 : decode cL_law 319 = .ok (.iadd, 1) := by decide +kernel
theorem dL_law_320 : decode cL_law 320 = .ok (.iaload, 1) := by decide +kernel
theorem dL_law_321 : decode cL_law 321 = .ok (.aload_n 0, 1) := by decide +kernel
theorem dL_law_322 : decode cL_law 322 = .ok (.iload_n 3, 1) := by decide +kernel
theorem dL_law_323 : decode cL_law 323 = .ok (.iconst 2, 1) := by decide +kernel
theorem dL_law_324 : decode cL_law 324 = .ok (.iadd, 1) := by decide +kernel
theorem dL_law_325 : decode cL_law 325 = .ok (.iaload, 1) := by decide +kernel
theorem dL_law_326 : decode cL_law 326 = .ok (.invokevirtual 28, 3) := by decide +kernel
theorem dL_law_329 : decode cL_law 329 = .ok (.aload_n 2, 1) := by decide +kernel
theorem dL_law_330 : decode cL_law 330 = .ok (.aload_n 0, 1) := by decide +kernel
theorem dL_law_331 : decode cL_law 331 = .ok (.iload_n 3, 1) := by decide +kernel
theorem dL_law_332 : decode cL_law 332 = .ok (.iconst 1, 1) := by decide +kernel
theorem dL_law_333 : decode cL_law 333 = .ok (.iadd, 1) := by decide +kernel
theorem dL_law_334 : decode cL_law 334 = .ok (.iaload, 1) := by decide +kernel
theorem dL_law_335 : decode cL_law 335 = .ok (.aload_n 0, 1) := by decide +kernel
theorem dL_law_336 : decode cL_law 336 = .ok (.iload_n 3, 1) := by decide +kernel
theorem dL_law_337 : decode cL_law 337 = .ok (.iconst 2, 1) := by decide +kernel
theorem dL_law_338 : decode cL_law 338 = .ok (.iadd, 1) := by decide +kernel
theorem dL_law_339 : decode cL_law 339 = .ok (.iaload, 1) := by decide +kernel
theorem dL_law_340 : decode cL_law 340 = .ok (.invokevirtual 31, 3) := by decide +kernel
theorem dL_law_343 : decode cL_law 343 = .ok (.if_icmp .eq 1049, 3) := by decide +kernel
theorem dL_law_346 : decode cL_law 346 = .ok (.iconst 0, 1) := by decide +kernel
theorem dL_law_347 : decode cL_law 347 = .ok (.ireturn, 1) := by decide +kernel
theorem dL_law_348 : decode cL_law 348 = .ok (.aload_n 1, 1) := by decide +kernel
theorem dL_law_349 : decode cL_law 349 = .ok (.aload_n 0, 1) := by decide +kernel
theorem dL_law_350 : decode cL_law 350 = .ok (.iload_n 3, 1) := by decide +kernel
theorem dL_law_351 : decode cL_law 351 = .ok (.iconst 1, 1) := by decide +kernel
theorem dL_law_352 : decode cL_law 352 = .ok (.iadd, 1) := by decide +kernel
theorem dL_law_353 : decode cL_law 353 = .ok (.iaload, 1) := by decide +kernel
theorem dL_law_354 : decode cL_law 354 = .ok (.aload_n 0, 1) := by decide +kernel
theorem dL_law_355 : decode cL_law 355 = .ok (.iload_n 3, 1) := by decide +kernel
theorem dL_law_356 : decode cL_law 356 = .ok (.iconst 2, 1) := by decide +kernel
theorem dL_law_357 : decode cL_law 357 = .ok (.iadd, 1) := by decide +kernel
theorem dL_law_358 : decode cL_law 358 = .ok (.iaload, 1) := by decide +kernel
theorem dL_law_359 : decode cL_law 359 = .ok (.invokevirtual 32, 3) := by decide +kernel
theorem dL_law_362 : decode cL_law 362 = .ok (.aload_n 2, 1) := by decide +kernel
theorem dL_law_363 : decode cL_law 363 = .ok (.aload_n 0, 1) := by decide +kernel
theorem dL_law_364 : decode cL_law 364 = .ok (.iload_n 3, 1) := by decide +kernel
theorem dL_law_365 : decode cL_law 365 = .ok (.iconst 1, 1) := by decide +kernel
theorem dL_law_366 : decode cL_law 366 = .ok (.iadd, 1) := by decide +kernel
theorem dL_law_367 : decode cL_law 367 = .ok (.iaload, 1) := by decide +kernel
theorem dL_law_368 : decode cL_law 368 = .ok (.aload_n 0, 1) := by decide +kernel
theorem dL_law_369 : decode cL_law 369 = .ok (.iload_n 3, 1) := by decide +kernel
theorem dL_law_370 : decode cL_law 370 = .ok (.iconst 2, 1) := by decide +kernel
theorem dL_law_371 : decode cL_law 371 = .ok (.iadd, 1) := by decide +kernel
theorem dL_law_372 : decode cL_law 372 = .ok (.iaload, 1) := by decide +kernel
theorem dL_law_373 : decode cL_law 373 = .ok (.invokevirtual 35, 3) := by decide +kernel
theorem dL_law_376 : decode cL_law 376 = .ok (.if_icmp .eq 1016, 3) := by decide +kernel
theorem dL_law_379 : decode cL_law 379 = .ok (.iconst 0, 1) := by decide +kernel
theorem dL_law_380 : decode cL_law 380 = .ok (.ireturn, 1) := by decide +kernel
theorem dL_law_381 : decode cL_law 381 = .ok (.aload_n 1, 1) := by decide +kernel
theorem dL_law_382 : decode cL_law 382 = .ok (.aload_n 0, 1) := by decide +kernel
theorem dL_law_383 : decode cL_law 383 = .ok (.iload_n 3, 1) := by decide +kernel
theorem dL_law_384 : decode cL_law 384 = .ok (.iconst 1, 1) := by decide +kernel
theorem dL_law_385 : decode cL_law 385 = .ok (.iadd, 1) := by decide +kernel
theorem dL_law_386 : decode cL_law 386 = .ok (.iaload, 1) := by decide +kernel
theorem dL_law_387 : decode cL_law 387 = .ok (.aload_n 0, 1) := by decide +kernel
theorem dL_law_388 : decode cL_law 388 = .ok (.iload_n 3, 1) := by decide +kernel
theorem dL_law_389 : decode cL_law 389 = .ok (.iconst 2, 1) := by decide +kernel
theorem dL_law_390 : decode cL_law 390 = .ok (.iadd, 1) := by decide +kernel
theorem dL_law_391 : decode cL_law 391 = .ok (.iaload, 1) := by decide +kernel
theorem dL_law_392 : decode cL_law 392 = .ok (.invokevirtual 36, 3) := by decide +kernel
theorem dL_law_395 : decode cL_law 395 = .ok (.aload_n 2, 1) := by decide +kernel
theorem dL_law_396 : decode cL_law 396 = .ok (.aload_n 0, 1) := by decide +kernel
theorem dL_law_397 : decode cL_law 397 = .ok (.iload_n 3, 1) := by decide +kernel
theorem dL_law_398 : decode cL_law 398 = .ok (.iconst 1, 1) := by decide +kernel
theorem dL_law_399 : decode cL_law 399 = .ok (.iadd, 1) := by decide +kernel
theorem dL_law_400 : decode cL_law 400 = .ok (.iaload, 1) := by decide +kernel
theorem dL_law_401 : decode cL_law 401 = .ok (.aload_n 0, 1) := by decide +kernel
theorem dL_law_402 : decode cL_law 402 = .ok (.iload_n 3, 1) := by decide +kernel
theorem dL_law_403 : decode cL_law 403 = .ok (.iconst 2, 1) := by decide +kernel
theorem dL_law_404 : decode cL_law 404 = .ok (.iadd, 1) := by decide +kernel
theorem dL_law_405 : decode cL_law 405 = .ok (.iaload, 1) := by decide +kernel
theorem dL_law_406 : decode cL_law 406 = .ok (.invokevirtual 39, 3) := by decide +kernel
theorem dL_law_409 : decode cL_law 409 = .ok (.if_icmp .eq 983, 3) := by decide +kernel
theorem dL_law_412 : decode cL_law 412 = .ok (.iconst 0, 1) := by decide +kernel
theorem dL_law_413 : decode cL_law 413 = .ok (.ireturn, 1) := by decide +kernel
theorem dL_law_414 : decode cL_law 414 = .ok (.aload_n 1, 1) := by decide +kernel
theorem dL_law_415 : decode cL_law 415 = .ok (.aload_n 0, 1) := by decide +kernel
theorem dL_law_416 : decode cL_law 416 = .ok (.iload_n 3, 1) := by decide +kernel
theorem dL_law_417 : decode cL_law 417 = .ok (.iconst 1, 1) := by decide +kernel
theorem dL_law_418 : decode cL_law 418 = .ok (.iadd, 1) := by decide +kernel
theorem dL_law_419 : decode cL_law 419 = .ok (.iaload, 1) := by decide +kernel
theorem dL_law_420 : decode cL_law 420 = .ok (.invokevirtual 40, 3) := by decide +kernel
theorem dL_law_423 : decode cL_law 423 = .ok (.aload_n 2, 1) := by decide +kernel
theorem dL_law_424 : decode cL_law 424 = .ok (.aload_n 0, 1) := by decide +kernel
theorem dL_law_425 : decode cL_law 425 = .ok (.iload_n 3, 1) := by decide +kernel
theorem dL_law_426 : decode cL_law 426 = .ok (.iconst 1, 1) := by decide +kernel
theorem dL_law_427 : decode cL_law 427 = .ok (.iadd, 1) := by decide +kernel
theorem dL_law_428 : decode cL_law 428 = .ok (.iaload, 1) := by decide +kernel
theorem dL_law_429 : decode cL_law 429 = .ok (.invokevirtual 43, 3) := by decide +kernel
theorem dL_law_432 : decode cL_law 432 = .ok (.if_icmp .eq 960, 3) := by decide +kernel
theorem dL_law_435 : decode cL_law 435 = .ok (.iconst 0, 1) := by decide +kernel
theorem dL_law_436 : decode cL_law 436 = .ok (.ireturn, 1) := by decide +kernel
theorem dL_law_437 : decode cL_law 437 = .ok (.aload_n 1, 1) := by decide +kernel
theorem dL_law_438 : decode cL_law 438 = .ok (.aload_n 0, 1) := by decide +kernel
theorem dL_law_439 : decode cL_law 439 = .ok (.iload_n 3, 1) := by decide +kernel
theorem dL_law_440 : decode cL_law 440 = .ok (.iconst 1, 1) := by decide +kernel
theorem dL_law_441 : decode cL_law 441 = .ok (.iadd, 1) := by decide +kernel
theorem dL_law_442 : decode cL_law 442 = .ok (.iaload, 1) := by decide +kernel
theorem dL_law_443 : decode cL_law 443 = .ok (.invokevirtual 44, 3) := by decide +kernel
theorem dL_law_446 : decode cL_law 446 = .ok (.aload_n 2, 1) := by decide +kernel
theorem dL_law_447 : decode cL_law 447 = .ok (.aload_n 0, 1) := by decide +kernel
theorem dL_law_448 : decode cL_law 448 = .ok (.iload_n 3, 1) := by decide +kernel
theorem dL_law_449 : decode cL_law 449 = .ok (.iconst 1, 1) := by decide +kernel
theorem dL_law_450 : decode cL_law 450 = .ok (.iadd, 1) := by decide +kernel
theorem dL_law_451 : decode cL_law 451 = .ok (.iaload, 1) := by decide +kernel
theorem dL_law_452 : decode cL_law 452 = .ok (.invokevirtual 47, 3) := by decide +kernel
theorem dL_law_455 : decode cL_law 455 = .ok (.if_icmp .eq 937, 3) := by decide +kernel
theorem dL_law_458 : decode cL_law 458 = .ok (.iconst 0, 1) := by decide +kernel
theorem dL_law_459 : decode cL_law 459 = .ok (.ireturn, 1) := by decide +kernel
theorem dL_law_460 : decode cL_law 460 = .ok (.aload_n 1, 1) := by decide +kernel
theorem dL_law_461 : decode cL_law 461 = .ok (.aload_n 0, 1) := by decide +kernel
theorem dL_law_462 : decode cL_law 462 = .ok (.iload_n 3, 1) := by decide +kernel
theorem dL_law_463 : decode cL_law 463 = .ok (.iconst 1, 1) := by decide +kernel
theorem dL_law_464 : decode cL_law 464 = .ok (.iadd, 1) := by decide +kernel
theorem dL_law_465 : decode cL_law 465 = .ok (.iaload, 1) := by decide +kernel
theorem dL_law_466 : decode cL_law 466 = .ok (.aload_n 0, 1) := by decide +kernel
theorem dL_law_467 : decode cL_law 467 = .ok (.iload_n 3, 1) := by decide +kernel
theorem dL_law_468 : decode cL_law 468 = .ok (.iconst 2, 1) := by decide +kernel
theorem dL_law_469 : decode cL_law 469 = .ok (.iadd, 1) := by decide +kernel
theorem dL_law_470 : decode cL_law 470 = .ok (.iaload, 1) := by decide +kernel
theorem dL_law_471 : decode cL_law 471 = .ok (.invokevirtual 48, 3) := by decide +kernel
theorem dL_law_474 : decode cL_law 474 = .ok (.aload_n 2, 1) := by decide +kernel
theorem dL_law_475 : decode cL_law 475 = .ok (.aload_n 0, 1) := by decide +kernel
theorem dL_law_476 : decode cL_law 476 = .ok (.iload_n 3, 1) := by decide +kernel
theorem dL_law_477 : decode cL_law 477 = .ok (.iconst 1, 1) := by decide +kernel
theorem dL_law_478 : decode cL_law 478 = .ok (.iadd, 1) := by decide +kernel
theorem dL_law_479 : decode cL_law 479 = .ok (.iaload, 1) := by decide +kernel
theorem dL_law_480 : decode cL_law 480 = .ok (.aload_n 0, 1) := by decide +kernel
theorem dL_law_481 : decode cL_law 481 = .ok (.iload_n 3, 1) := by decide +kernel
theorem dL_law_482 : decode cL_law 482 = .ok (.iconst 2, 1) := by decide +kernel
theorem dL_law_483 : decode cL_law 483 = .ok (.iadd, 1) := by decide +kernel
theorem dL_law_484 : decode cL_law 484 = .ok (.iaload, 1) := by decide +kernel
theorem dL_law_485 : decode cL_law 485 = .ok (.invokevirtual 51, 3) := by decide +kernel
theorem dL_law_488 : decode cL_law 488 = .ok (.if_icmp .eq 904, 3) := by decide +kernel
theorem dL_law_491 : decode cL_law 491 = .ok (.iconst 0, 1) := by decide +kernel
theorem dL_law_492 : decode cL_law 492 = .ok (.ireturn, 1) := by decide +kernel
theorem dL_law_493 : decode cL_law 493 = .ok (.aload_n 1, 1) := by decide +kernel
theorem dL_law_494 : decode cL_law 494 = .ok (.aload_n 0, 1) := by decide +kernel
theorem dL_law_495 : decode cL_law 495 = .ok (.iload_n 3, 1) := by decide +kernel
theorem dL_law_496 : decode cL_law 496 = .ok (.iconst 1, 1) := by decide +kernel
theorem dL_law_497 : decode cL_law 497 = .ok (.iadd, 1) := by decide +kernel
theorem dL_law_498 : decode cL_law 498 = .ok (.iaload, 1) := by decide +kernel
theorem dL_law_499 : decode cL_law 499 = .ok (.aload_n 0, 1) := by decide +kernel
theorem dL_law_500 : decode cL_law 500 = .ok (.iload_n 3, 1) := by decide +kernel
theorem dL_law_501 : decode cL_law 501 = .ok (.iconst 2, 1) := by decide +kernel
theorem dL_law_502 : decode cL_law 502 = .ok (.iadd, 1) := by decide +kernel
theorem dL_law_503 : decode cL_law 503 = .ok (.iaload, 1) := by decide +kernel
theorem dL_law_504 : decode cL_law 504 = .ok (.invokevirtual 52, 3) := by decide +kernel
theorem dL_law_507 : decode cL_law 507 = .ok (.aload_n 2, 1) := by decide +kernel
theorem dL_law_508 : decode cL_law 508 = .ok (.aload_n 0, 1) := by decide +kernel
theorem dL_law_509 : decode cL_law 509 = .ok (.iload_n 3, 1) := by decide +kernel
theorem dL_law_510 : decode cL_law 510 = .ok (.iconst 1, 1) := by decide +kernel
theorem dL_law_511 : decode cL_law 511 = .ok (.iadd, 1) := by decide +kernel
theorem dL_law_512 : decode cL_law 512 = .ok (.iaload, 1) := by decide +kernel
theorem dL_law_513 : decode cL_law 513 = .ok (.aload_n 0, 1) := by decide +kernel
theorem dL_law_514 : decode cL_law 514 = .ok (.iload_n 3, 1) := by decide +kernel
theorem dL_law_515 : decode cL_law 515 = .ok (.iconst 2, 1) := by decide +kernel
theorem dL_law_516 : decode cL_law 516 = .ok (.iadd, 1) := by decide +kernel
theorem dL_law_517 : decode cL_law 517 = .ok (.iaload, 1) := by decide +kernel
theorem dL_law_518 : decode cL_law 518 = .ok (.invokevirtual 55, 3) := by decide +kernel
theorem dL_law_521 : decode cL_law 521 = .ok (.if_icmp .eq 871, 3) := by decide +kernel
theorem dL_law_524 : decode cL_law 524 = .ok (.iconst 0, 1) := by decide +kernel
theorem dL_law_525 : decode cL_law 525 = .ok (.ireturn, 1) := by decide +kernel
theorem dL_law_526 : decode cL_law 526 = .ok (.aload_n 1, 1) := by decide +kernel
theorem dL_law_527 : decode cL_law 527 = .ok (.aload_n 0, 1) := by decide +kernel
theorem dL_law_528 : decode cL_law 528 = .ok (.iload_n 3, 1) := by decide +kernel
theorem dL_law_529 : decode cL_law 529 = .ok (.iconst 1, 1) := by decide +kernel
theorem dL_law_530 : decode cL_law 530 = .ok (.iadd, 1) := by decide +kernel
theorem dL_law_531 : decode cL_law 531 = .ok (.iaload, 1) := by decide +kernel
theorem dL_law_532 : decode cL_law 532 = .ok (.invokevirtual 56, 3) := by decide +kernel
theorem dL_law_535 : decode cL_law 535 = .ok (.aload_n 2, 1) := by decide +kernel
theorem dL_law_536 : decode cL_law 536 = .ok (.aload_n 0, 1) := by decide +kernel
theorem dL_law_537 : decode cL_law 537 = .ok (.iload_n 3, 1) := by decide +kernel
theorem dL_law_538 : decode cL_law 538 = .ok (.iconst 1, 1) := by decide +kernel
theorem dL_law_539 : decode cL_law 539 = .ok (.iadd, 1) := by decide +kernel
theorem dL_law_540 : decode cL_law 540 = .ok (.iaload, 1) := by decide +kernel
theorem dL_law_541 : decode cL_law 541 = .ok (.invokevirtual 59, 3) := by decide +kernel
theorem dL_law_544 : decode cL_law 544 = .ok (.if_icmp .eq 848, 3) := by decide +kernel
theorem dL_law_547 : decode cL_law 547 = .ok (.iconst 0, 1) := by decide +kernel
theorem dL_law_548 : decode cL_law 548 = .ok (.ireturn, 1) := by decide +kernel
theorem dL_law_549 : decode cL_law 549 = .ok (.aload_n 1, 1) := by decide +kernel
theorem dL_law_550 : decode cL_law 550 = .ok (.aload_n 0, 1) := by decide +kernel
theorem dL_law_551 : decode cL_law 551 = .ok (.iload_n 3, 1) := by decide +kernel
theorem dL_law_552 : decode cL_law 552 = .ok (.iconst 1, 1) := by decide +kernel
theorem dL_law_553 : decode cL_law 553 = .ok (.iadd, 1) := by decide +kernel
theorem dL_law_554 : decode cL_law 554 = .ok (.iaload, 1) := by decide +kernel
theorem dL_law_555 : decode cL_law 555 = .ok (.invokevirtual 60, 3) := by decide +kernel
theorem dL_law_558 : decode cL_law 558 = .ok (.aload_n 2, 1) := by decide +kernel
theorem dL_law_559 : decode cL_law 559 = .ok (.aload_n 0, 1) := by decide +kernel
theorem dL_law_560 : decode cL_law 560 = .ok (.iload_n 3, 1) := by decide +kernel
theorem dL_law_561 : decode cL_law 561 = .ok (.iconst 1, 1) := by decide +kernel
theorem dL_law_562 : decode cL_law 562 = .ok (.iadd, 1) := by decide +kernel
theorem dL_law_563 : decode cL_law 563 = .ok (.iaload, 1) := by decide +kernel
theorem dL_law_564 : decode cL_law 564 = .ok (.invokevirtual 63, 3) := by decide +kernel
theorem dL_law_567 : decode cL_law 567 = .ok (.if_icmp .eq 825, 3) := by decide +kernel
theorem dL_law_570 : decode cL_law 570 = .ok (.iconst 0, 1) := by decide +kernel
theorem dL_law_571 : decode cL_law 571 = .ok (.ireturn, 1) := by decide +kernel
theorem dL_law_572 : decode cL_law 572 = .ok (.aload_n 1, 1) := by decide +kernel
theorem dL_law_573 : decode cL_law 573 = .ok (.aload_n 0, 1) := by decide +kernel
theorem dL_law_574 : decode cL_law 574 = .ok (.iload_n 3, 1) := by decide +kernel
theorem dL_law_575 : decode cL_law 575 = .ok (.iconst 1, 1) := by decide +kernel
theorem dL_law_576 : decode cL_law 576 = .ok (.iadd, 1) := by decide +kernel
theorem dL_law_577 : decode cL_law 577 = .ok (.iaload, 1) := by decide +kernel
theorem dL_law_578 : decode cL_law 578 = .ok (.invokevirtual 64, 3) := by decide +kernel
theorem dL_law_581 : decode cL_law 581 = .ok (.aload_n 2, 1) := by decide +kernel
theorem dL_law_582 : decode cL_law 582 = .ok (.aload_n 0, 1) := by decide +kernel
theorem dL_law_583 : decode cL_law 583 = .ok (.iload_n 3, 1) := by decide +kernel
theorem dL_law_584 : decode cL_law 584 = .ok (.iconst 1, 1) := by decide +kernel
theorem dL_law_585 : decode cL_law 585 = .ok (.iadd, 1) := by decide +kernel
theorem dL_law_586 : decode cL_law 586 = .ok (.iaload, 1) := by decide +kernel
theorem dL_law_587 : decode cL_law 587 = .ok (.invokevirtual 67, 3) := by decide +kernel
theorem dL_law_590 : decode cL_law 590 = .ok (.if_icmp .eq 802, 3) := by decide +kernel
theorem dL_law_593 : decode cL_law 593 = .ok (.iconst 0, 1) := by decide +kernel
theorem dL_law_594 : decode cL_law 594 = .ok (.ireturn, 1) := by decide +kernel
theorem dL_law_595 : decode cL_law 595 = .ok (.aload_n 1, 1) := by decide +kernel
theorem dL_law_596 : decode cL_law 596 = .ok (.aload_n 0, 1) := by decide +kernel
theorem dL_law_597 : decode cL_law 597 = .ok (.iload_n 3, 1) := by decide +kernel
theorem dL_law_598 : decode cL_law 598 = .ok (.iconst 1, 1) := by decide +kernel
theorem dL_law_599 : decode cL_law 599 = .ok (.iadd, 1) := by decide +kernel
theorem dL_law_600 : decode cL_law 600 = .ok (.iaload, 1) := by decide +kernel
theorem dL_law_601 : decode cL_law 601 = .ok (.invokevirtual 68, 3) := by decide +kernel
theorem dL_law_604 : decode cL_law 604 = .ok (.aload_n 2, 1) := by decide +kernel
theorem dL_law_605 : decode cL_law 605 = .ok (.aload_n 0, 1) := by decide +kernel
theorem dL_law_606 : decode cL_law 606 = .ok (.iload_n 3, 1) := by decide +kernel
theorem dL_law_607 : decode cL_law 607 = .ok (.iconst 1, 1) := by decide +kernel
theorem dL_law_608 : decode cL_law 608 = .ok (.iadd, 1) := by decide +kernel
theorem dL_law_609 : decode cL_law 609 = .ok (.iaload, 1) := by decide +kernel
theorem dL_law_610 : decode cL_law 610 = .ok (.invokevirtual 71, 3) := by decide +kernel
theorem dL_law_613 : decode cL_law 613 = .ok (.if_icmp .eq 779, 3) := by decide +kernel
theorem dL_law_616 : decode cL_law 616 = .ok (.iconst 0, 1) := by decide +kernel
theorem dL_law_617 : decode cL_law 617 = .ok (.ireturn, 1) := by decide +kernel
theorem dL_law_618 : decode cL_law 618 = .ok (.aload_n 1, 1) := by decide +kernel
theorem dL_law_619 : decode cL_law 619 = .ok (.aload_n 0, 1) := by decide +kernel
theorem dL_law_620 : decode cL_law 620 = .ok (.iload_n 3, 1) := by decide +kernel
theorem dL_law_621 : decode cL_law 621 = .ok (.iconst 1, 1) := by decide +kernel
theorem dL_law_622 : decode cL_law 622 = .ok (.iadd, 1) := by decide +kernel
theorem dL_law_623 : decode cL_law 623 = .ok (.iaload, 1) := by decide +kernel
theorem dL_law_624 : decode cL_law 624 = .ok (.invokevirtual 72, 3) := by decide +kernel
theorem dL_law_627 : decode cL_law 627 = .ok (.aload_n 2, 1) := by decide +kernel
theorem dL_law_628 : decode cL_law 628 = .ok (.aload_n 0, 1) := by decide +kernel
theorem dL_law_629 : decode cL_law 629 = .ok (.iload_n 3, 1) := by decide +kernel
theorem dL_law_630 : decode cL_law 630 = .ok (.iconst 1, 1) := by decide +kernel
theorem dL_law_631 : decode cL_law 631 = .ok (.iadd, 1) := by decide +kernel
theorem dL_law_632 : decode cL_law 632 = .ok (.iaload, 1) := by decide +kernel
theorem dL_law_633 : decode cL_law 633 = .ok (.invokevirtual 75, 3) := by decide +kernel
theorem dL_law_636 : decode cL_law 636 = .ok (.if_icmp .eq 756, 3) := by decide +kernel
theorem dL_law_639 : decode cL_law 639 = .ok (.iconst 0, 1) := by decide +kernel
theorem dL_law_640 : decode cL_law 640 = .ok (.ireturn, 1) := by decide +kernel
theorem dL_law_641 : decode cL_law 641 = .ok (.aload_n 1, 1) := by decide +kernel
theorem dL_law_642 : decode cL_law 642 = .ok (.aload_n 0, 1) := by decide +kernel
theorem dL_law_643 : decode cL_law 643 = .ok (.iload_n 3, 1) := by decide +kernel
theorem dL_law_644 : decode cL_law 644 = .ok (.iconst 1, 1) := by decide +kernel
theorem dL_law_645 : decode cL_law 645 = .ok (.iadd, 1) := by decide +kernel
theorem dL_law_646 : decode cL_law 646 = .ok (.iaload, 1) := by decide +kernel
theorem dL_law_647 : decode cL_law 647 = .ok (.invokevirtual 76, 3) := by decide +kernel
theorem dL_law_650 : decode cL_law 650 = .ok (.aload_n 2, 1) := by decide +kernel
theorem dL_law_651 : decode cL_law 651 = .ok (.aload_n 0, 1) := by decide +kernel
theorem dL_law_652 : decode cL_law 652 = .ok (.iload_n 3, 1) := by decide +kernel
theorem dL_law_653 : decode cL_law 653 = .ok (.iconst 1, 1) := by decide +kernel
theorem dL_law_654 : decode cL_law 654 = .ok (.iadd, 1) := by decide +kernel
theorem dL_law_655 : decode cL_law 655 = .ok (.iaload, 1) := by decide +kernel
theorem dL_law_656 : decode cL_law 656 = .ok (.invokevirtual 79, 3) := by decide +kernel
theorem dL_law_659 : decode cL_law 659 = .ok (.if_icmp .eq 733, 3) := by decide +kernel
theorem dL_law_662 : decode cL_law 662 = .ok (.iconst 0, 1) := by decide +kernel
theorem dL_law_663 : decode cL_law 663 = .ok (.ireturn, 1) := by decide +kernel
theorem dL_law_664 : decode cL_law 664 = .ok (.aload_n 1, 1) := by decide +kernel
theorem dL_law_665 : decode cL_law 665 = .ok (.aload_n 0, 1) := by decide +kernel
theorem dL_law_666 : decode cL_law 666 = .ok (.iload_n 3, 1) := by decide +kernel
theorem dL_law_667 : decode cL_law 667 = .ok (.iconst 1, 1) := by decide +kernel
theorem dL_law_668 : decode cL_law 668 = .ok (.iadd, 1) := by decide +kernel
theorem dL_law_669 : decode cL_law 669 = .ok (.iaload, 1) := by decide +kernel
theorem dL_law_670 : decode cL_law 670 = .ok (.invokevirtual 80, 3) := by decide +kernel
theorem dL_law_673 : decode cL_law 673 = .ok (.aload_n 2, 1) := by decide +kernel
theorem dL_law_674 : decode cL_law 674 = .ok (.aload_n 0, 1) := by decide +kernel
theorem dL_law_675 : decode cL_law 675 = .ok (.iload_n 3, 1) := by decide +kernel
theorem dL_law_676 : decode cL_law 676 = .ok (.iconst 1, 1) := by decide +kernel
theorem dL_law_677 : decode cL_law 677 = .ok (.iadd, 1) := by decide +kernel
theorem dL_law_678 : decode cL_law 678 = .ok (.iaload, 1) := by decide +kernel
theorem dL_law_679 : decode cL_law 679 = .ok (.invokevirtual 83, 3) := by decide +kernel
theorem dL_law_682 : decode cL_law 682 = .ok (.if_icmp .eq 710, 3) := by decide +kernel
theorem dL_law_685 : decode cL_law 685 = .ok (.iconst 0, 1) := by decide +kernel
theorem dL_law_686 : decode cL_law 686 = .ok (.ireturn, 1) := by decide +kernel
theorem dL_law_687 : decode cL_law 687 = .ok (.aload_n 1, 1) := by decide +kernel
theorem dL_law_688 : decode cL_law 688 = .ok (.aload_n 0, 1) := by decide +kernel
theorem dL_law_689 : decode cL_law 689 = .ok (.iload_n 3, 1) := by decide +kernel
theorem dL_law_690 : decode cL_law 690 = .ok (.iconst 1, 1) := by decide +kernel
theorem dL_law_691 : decode cL_law 691 = .ok (.iadd, 1) := by decide +kernel
theorem dL_law_692 : decode cL_law 692 = .ok (.iaload, 1) := by decide +kernel
theorem dL_law_693 : decode cL_law 693 = .ok (.aload_n 0, 1) := by decide +kernel
theorem dL_law_694 : decode cL_law 694 = .ok (.iload_n 3, 1) := by decide +kernel
theorem dL_law_695 : decode cL_law 695 = .ok (.iconst 2, 1) := by decide +kernel
theorem dL_law_696 : decode cL_law 696 = .ok (.iadd, 1) := by decide +kernel
theorem dL_law_697 : decode cL_law 697 = .ok (.iaload, 1) := by decide +kernel
theorem dL_law_698 : decode cL_law 698 = .ok (.invokevirtual 84, 3) := by decide +kernel
theorem dL_law_701 : decode cL_law 701 = .ok (.aload_n 2, 1) := by decide +kernel
theorem dL_law_702 : decode cL_law 702 = .ok (.aload_n 0, 1) := by decide +kernel
theorem dL_law_703 : decode cL_law 703 = .ok (.iload_n 3, 1) := by decide +kernel
theorem dL_law_704 : decode cL_law 704 = .ok (.iconst 1, 1) := by decide +kernel
theorem dL_law_705 : decode cL_law 705 = .ok (.iadd, 1) := by decide +kernel
theorem dL_law_706 : decode cL_law 706 = .ok (.iaload, 1) := by decide +kernel
theorem dL_law_707 : decode cL_law 707 = .ok (.aload_n 0, 1) := by decide +kernel
theorem dL_law_708 : decode cL_law 708 = .ok (.iload_n 3, 1) := by decide +kernel
theorem dL_law_709 : decode cL_law 709 = .ok (.iconst 2, 1) := by decide +kernel
theorem dL_law_710 : decode cL_law 710 = .ok (.iadd, 1) := by decide +kernel
theorem dL_law_711 : decode cL_law 711 = .ok (.iaload, 1) := by decide +kernel
theorem dL_law_712 : decode cL_law 712 = .ok (.invokevirtual 87, 3) := by decide +kernel
theorem dL_law_715 : decode cL_law 715 = .ok (.if_icmp .eq 677, 3) := by decide +kernel
theorem dL_law_718 : decode cL_law 718 = .ok (.iconst 0, 1) := by decide +kernel
theorem dL_law_719 : decode cL_law 719 = .ok (.ireturn, 1) := by decide +kernel
theorem dL_law_720 : decode cL_law 720 = .ok (.aload_n 1, 1) := by decide +kernel
theorem dL_law_721 : decode cL_law 721 = .ok (.invokevirtual 88, 3) := by decide +kernel
theorem dL_law_724 : decode cL_law 724 = .ok (.aload_n 2, 1) := by decide +kernel
theorem dL_law_725 : decode cL_law 725 = .ok (.invokevirtual 92, 3) := by decide +kernel
theorem dL_law_728 : decode cL_law 728 = .ok (.if_icmp .eq 664, 3) := by decide +kernel
theorem dL_law_731 : decode cL_law 731 = .ok (.iconst 0, 1) := by decide +kernel
theorem dL_law_732 : decode cL_law 732 = .ok (.ireturn, 1) := by decide +kernel
theorem dL_law_733 : decode cL_law 733 = .ok (.aload_n 1, 1) := by decide +kernel
theorem dL_law_734 : decode cL_law 734 = .ok (.aload_n 0, 1) := by decide +kernel
theorem dL_law_735 : decode cL_law 735 = .ok (.iload_n 3, 1) := by decide +kernel
theorem dL_law_736 : decode cL_law 736 = .ok (.iconst 1, 1) := by decide +kernel
theorem dL_law_737 : decode cL_law 737 = .ok (.iadd, 1) := by decide +kernel
theorem dL_law_738 : decode cL_law 738 = .ok (.iaload, 1) := by decide +kernel
theorem dL_law_739 : decode cL_law 739 = .ok (.aload_n 0, 1) := by decide +kernel
theorem dL_law_740 : decode cL_law 740 = .ok (.iload_n 3, 1) := by decide +kernel
theorem dL_law_741 : decode cL_law 741 = .ok (.iconst 2, 1) := by decide +kernel
theorem dL_law_742 : decode cL_law 742 = .ok (.iadd, 1) := by decide +kernel
theorem dL_law_743 : decode cL_law 743 = .ok (.iaload, 1) := by decide +kernel
theorem dL_law_744 : decode cL_law 744 = .ok (.invokevirtual 93, 3) := by decide +kernel
theorem dL_law_747 : decode cL_law 747 = .ok (.aload_n 2, 1) := by decide +kernel
theorem dL_law_748 : decode cL_law 748 = .ok (.aload_n 0, 1) := by decide +kernel
theorem dL_law_749 : decode cL_law 749 = .ok (.iload_n 3, 1) := by decide +kernel
theorem dL_law_750 : decode cL_law 750 = .ok (.iconst 1, 1) := by decide +kernel
theorem dL_law_751 : decode cL_law 751 = .ok (.iadd, 1) := by decide +kernel
theorem dL_law_752 : decode cL_law 752 = .ok (.iaload, 1) := by decide +kernel
theorem dL_law_753 : decode cL_law 753 = .ok (.aload_n 0, 1) := by decide +kernel
theorem dL_law_754 : decode cL_law 754 = .ok (.iload_n 3, 1) := by decide +kernel
theorem dL_law_755 : decode cL_law 755 = .ok (.iconst 2, 1) := by decide +kernel
theorem dL_law_756 : decode cL_law 756 = .ok (.iadd, 1) := by decide +kernel
theorem dL_law_757 : decode cL_law 757 = .ok (.iaload, 1) := by decide +kernel
theorem dL_law_758 : decode cL_law 758 = .ok (.invokevirtual 96, 3) := by decide +kernel
theorem dL_law_761 : decode cL_law 761 = .ok (.if_icmp .eq 631, 3) := by decide +kernel
theorem dL_law_764 : decode cL_law 764 = .ok (.iconst 0, 1) := by decide +kernel
theorem dL_law_765 : decode cL_law 765 = .ok (.ireturn, 1) := by decide +kernel
theorem dL_law_766 : decode cL_law 766 = .ok (.aload_n 1, 1) := by decide +kernel
theorem dL_law_767 : decode cL_law 767 = .ok (.aload_n 0, 1) := by decide +kernel
theorem dL_law_768 : decode cL_law 768 = .ok (.iload_n 3, 1) := by decide +kernel
theorem dL_law_769 : decode cL_law 769 = .ok (.iconst 1, 1) := by decide +kernel
theorem dL_law_770 : decode cL_law 770 = .ok (.iadd, 1) := by decide +kernel
theorem dL_law_771 : decode cL_law 771 = .ok (.iaload, 1) := by decide +kernel
theorem dL_law_772 : decode cL_law 772 = .ok (.invokevirtual 97, 3) := by decide +kernel
theorem dL_law_775 : decode cL_law 775 = .ok (.aload_n 2, 1) := by decide +kernel
theorem dL_law_776 : decode cL_law 776 = .ok (.aload_n 0, 1) := by decide +kernel
theorem dL_law_777 : decode cL_law 777 = .ok (.iload_n 3, 1) := by decide +kernel
theorem dL_law_778 : decode cL_law 778 = .ok (.iconst 1, 1) := by decide +kernel
theorem dL_law_779 : decode cL_law 779 = .ok (.iadd, 1) := by decide +kernel
theorem dL_law_780 : decode cL_law 780 = .ok (.iaload, 1) := by decide +kernel
theorem dL_law_781 : decode cL_law 781 = .ok (.invokevirtual 100, 3) := by decide +kernel
theorem dL_law_784 : decode cL_law 784 = .ok (.if_icmp .eq 608, 3) := by decide +kernel
theorem dL_law_787 : decode cL_law 787 = .ok (.iconst 0, 1) := by decide +kernel
theorem dL_law_788 : decode cL_law 788 = .ok (.ireturn, 1) := by decide +kernel
theorem dL_law_789 : decode cL_law 789 = .ok (.aload_n 1, 1) := by decide +kernel
theorem dL_law_790 : decode cL_law 790 = .ok (.invokevirtual 101, 3) := by decide +kernel
theorem dL_law_793 : decode cL_law 793 = .ok (.aload_n 2, 1) := by decide +kernel
theorem dL_law_794 : decode cL_law 794 = .ok (.invokevirtual 104, 3) := by decide +kernel
theorem dL_law_797 : decode cL_law 797 = .ok (.if_icmp .eq 595, 3) := by decide +kernel
theorem dL_law_800 : decode cL_law 800 = .ok (.iconst 0, 1) := by decide +kernel
theorem dL_law_801 : decode cL_law 801 = .ok (.ireturn, 1) := by decide +kernel
theorem dL_law_802 : decode cL_law 802 = .ok (.aload_n 1, 1) := by decide +kernel
theorem dL_law_803 : decode cL_law 803 = .ok (.aload_n 0, 1) := by decide +kernel
theorem dL_law_804 : decode cL_law 804 = .ok (.iload_n 3, 1) := by decide +kernel
theorem dL_law_805 : decode cL_law 805 = .ok (.iconst 1, 1) := by decide +kernel
theorem dL_law_806 : decode cL_law 806 = .ok (.iadd, 1) := by decide +kernel
theorem dL_law_807 : decode cL_law 807 = .ok (.iaload, 1) := by decide +kernel
theorem dL_law_808 : decode cL_law 808 = .ok (.invokevirtual 105, 3) := by decide +kernel
theorem dL_law_811 : decode cL_law 811 = .ok (.aload_n 2, 1) := by decide +kernel
theorem dL_law_812 : decode cL_law 812 = .ok (.aload_n 0, 1) := by decide +kernel
theorem dL_law_813 : decode cL_law 813 = .ok (.iload_n 3, 1) := by decide +kernel
theorem dL_law_814 : decode cL_law 814 = .ok (.iconst 1, 1) := by decide +kernel
theorem dL_law_815 : decode cL_law 815 = .ok (.iadd, 1) := by decide +kernel
theorem dL_law_816 : decode cL_law 816 = .ok (.iaload, 1) := by decide +kernel
theorem dL_law_817 : decode cL_law 817 = .ok (.invokevirtual 108, 3) := by decide +kernel
theorem dL_law_820 : decode cL_law 820 = .ok (.if_icmp .eq 572, 3) := by decide +kernel
theorem dL_law_823 : decode cL_law 823 = .ok (.iconst 0, 1) := by decide +kernel
theorem dL_law_824 : decode cL_law 824 = .ok (.ireturn, 1) := by decide +kernel
theorem dL_law_825 : decode cL_law 825 = .ok (.aload_n 1, 1) := by decide +kernel
theorem dL_law_826 : decode cL_law 826 = .ok (.aload_n 0, 1) := by decide +kernel
theorem dL_law_827 : decode cL_law 827 = .ok (.iload_n 3, 1) := by decide +kernel
theorem dL_law_828 : decode cL_law 828 = .ok (.iconst 1, 1) := by decide +kernel
theorem dL_law_829 : decode cL_law 829 = .ok (.iadd, 1) := by decide +kernel
theorem dL_law_830 : decode cL_law 830 = .ok (.iaload, 1) := by decide +kernel
theorem dL_law_831 : decode cL_law 831 = .ok (.aload_n 0, 1) := by decide +kernel
theorem dL_law_832 : decode cL_law 832 = .ok (.iload_n 3, 1) := by decide +kernel
theorem dL_law_833 : decode cL_law 833 = .ok (.iconst 2, 1) := by decide +kernel
theorem dL_law_834 : decode cL_law 834 = .ok (.iadd, 1) := by decide +kernel
theorem dL_law_835 : decode cL_law 835 = .ok (.iaload, 1) := by decide +kernel
theorem dL_law_836 : decode cL_law 836 = .ok (.aload_n 0, 1) := by decide +kernel
theorem dL_law_837 : decode cL_law 837 = .ok (.iload_n 3, 1) := by decide +kernel
theorem dL_law_838 : decode cL_law 838 = .ok (.iconst 3, 1) := by decide +kernel
theorem dL_law_839 : decode cL_law 839 = .ok (.iadd, 1) := by decide +kernel
theorem dL_law_840 : decode cL_law 840 = .ok (.iaload, 1) := by decide +kernel
theorem dL_law_841 : decode cL_law 841 = .ok (.invokevirtual 109, 3) := by decide +kernel
theorem dL_law_844 : decode cL_law 844 = .ok (.aload_n 2, 1) := by decide +kernel
theorem dL_law_845 : decode cL_law 845 = .ok (.aload_n 0, 1) := by decide +kernel
theorem dL_law_846 : decode cL_law 846 = .ok (.iload_n 3, 1) := by decide +kernel
theorem dL_law_847 : decode cL_law 847 = .ok (.iconst 1, 1) := by decide +kernel
theorem dL_law_848 : decode cL_law 848 = .ok (.iadd, 1) := by decide +kernel
theorem dL_law_849 : decode cL_law 849 = .ok (.iaload, 1) := by decide +kernel
theorem dL_law_850 : decode cL_law 850 = .ok (.aload_n 0, 1) := by decide +kernel
theorem dL_law_851 : decode cL_law 851 = .ok (.iload_n 3, 1) := by decide +kernel
theorem dL_law_852 : decode cL_law 852 = .ok (.iconst 2, 1) := by decide +kernel
theorem dL_law_853 : decode cL_law 853 = .ok (.iadd, 1) := by decide +kernel
theorem dL_law_854 : decode cL_law 854 = .ok (.iaload, 1) := by decide +kernel
theorem dL_law_855 : decode cL_law 855 = .ok (.aload_n 0, 1) := by decide +kernel
theorem dL_law_856 : decode cL_law 856 = .ok (.iload_n 3, 1) := by decide +kernel
theorem dL_law_857 : decode cL_law 857 = .ok (.iconst 3, 1) := by decide +kernel
theorem dL_law_858 : decode cL_law 858 = .ok (.iadd, 1) := by decide +kernel
theorem dL_law_859 : decode cL_law 859 = .ok (.iaload, 1) := by decide +kernel
theorem dL_law_860 : decode cL_law 860 = .ok (.invokevirtual 112, 3) := by decide +kernel
theorem dL_law_863 : decode cL_law 863 = .ok (.if_icmp .eq 529, 3) := by decide +kernel
theorem dL_law_866 : decode cL_law 866 = .ok (.iconst 0, 1) := by decide +kernel
theorem dL_law_867 : decode cL_law 867 = .ok (.ireturn, 1) := by decide +kernel
theorem dL_law_868 : decode cL_law 868 = .ok (.aload_n 1, 1) := by decide +kernel
theorem dL_law_869 : decode cL_law 869 = .ok (.aload_n 0, 1) := by decide +kernel
theorem dL_law_870 : decode cL_law 870 = .ok (.iload_n 3, 1) := by decide +kernel
theorem dL_law_871 : decode cL_law 871 = .ok (.iconst 1, 1) := by decide +kernel
theorem dL_law_872 : decode cL_law 872 = .ok (.iadd, 1) := by decide +kernel
theorem dL_law_873 : decode cL_law 873 = .ok (.iaload, 1) := by decide +kernel
theorem dL_law_874 : decode cL_law 874 = .ok (.invokevirtual 113, 3) := by decide +kernel
theorem dL_law_877 : decode cL_law 877 = .ok (.aload_n 2, 1) := by decide +kernel
theorem dL_law_878 : decode cL_law 878 = .ok (.aload_n 0, 1) := by decide +kernel
theorem dL_law_879 : decode cL_law 879 = .ok (.iload_n 3, 1) := by decide +kernel
theorem dL_law_880 : decode cL_law 880 = .ok (.iconst 1, 1) := by decide +kernel
theorem dL_law_881 : decode cL_law 881 = .ok (.iadd, 1) := by decide +kernel
theorem dL_law_882 : decode cL_law 882 = .ok (.iaload, 1) := by decide +kernel
theorem dL_law_883 : decode cL_law 883 = .ok (.invokevirtual 116, 3) := by decide +kernel
theorem dL_law_886 : decode cL_law 886 = .ok (.if_icmp .eq 506, 3) := by decide +kernel
theorem dL_law_889 : decode cL_law 889 = .ok (.iconst 0, 1) := by decide +kernel
theorem dL_law_890 : decode cL_law 890 = .ok (.ireturn, 1) := by decide +kernel
theorem dL_law_891 : decode cL_law 891 = .ok (.aload_n 1, 1) := by decide +kernel
theorem dL_law_892 : decode cL_law 892 = .ok (.invokevirtual 117, 3) := by decide +kernel
theorem dL_law_895 : decode cL_law 895 = .ok (.aload_n 2, 1) := by decide +kernel
theorem dL_law_896 : decode cL_law 896 = .ok (.invokevirtual 120, 3) := by decide +kernel
theorem dL_law_899 : decode cL_law 899 = .ok (.if_icmp .eq 493, 3) := by decide +kernel
theorem dL_law_902 : decode cL_law 902 = .ok (.iconst 0, 1) := by decide +kernel
theorem dL_law_903 : decode cL_law 903 = .ok (.ireturn, 1) := by decide +kernel
theorem dL_law_904 : decode cL_law 904 = .ok (.aload_n 1, 1) := by decide +kernel
theorem dL_law_905 : decode cL_law 905 = .ok (.aload_n 0, 1) := by decide +kernel
theorem dL_law_906 : decode cL_law 906 = .ok (.iload_n 3, 1) := by decide +kernel
theorem dL_law_907 : decode cL_law 907 = .ok (.iconst 1, 1) := by decide +kernel
theorem dL_law_908 : decode cL_law 908 = .ok (.iadd, 1) := by decide +kernel
theorem dL_law_909 : decode cL_law 909 = .ok (.iaload, 1) := by decide +kernel
theorem dL_law_910 : decode cL_law 910 = .ok (.aload_n 0, 1) := by decide +kernel
theorem dL_law_911 : decode cL_law 911 = .ok (.iload_n 3, 1) := by decide +kernel
theorem dL_law_912 : decode cL_law 912 = .ok (.iconst 2, 1) := by decide +kernel
theorem dL_law_913 : decode cL_law 913 = .ok (.iadd, 1) := by decide +kernel
theorem dL_law_914 : decode cL_law 914 = .ok (.iaload, 1) := by decide +kernel
theorem dL_law_915 : decode cL_law 915 = .ok (.invokevirtual 121, 3) := by decide +kernel
theorem dL_law_918 : decode cL_law 918 = .ok (.aload_n 2, 1) := by decide +kernel
theorem dL_law_919 : decode cL_law 919 = .ok (.aload_n 0, 1) := by decide +kernel
theorem dL_law_920 : decode cL_law 920 = .ok (.iload_n 3, 1) := by decide +kernel
theorem dL_law_921 : decode cL_law 921 = .ok (.iconst 1, 1) := by decide +kernel
theorem dL_law_922 : decode cL_law 922 = .ok (.iadd, 1) := by decide +kernel
theorem dL_law_923 : decode cL_law 923 = .ok (.iaload, 1) := by decide +kernel
theorem dL_law_924 : decode cL_law 924 = .ok (.aload_n 0, 1) := by decide +kernel
theorem dL_law_925 : decode cL_law 925 = .ok (.iload_n 3, 1) := by decide +kernel
theorem dL_law_926 : decode cL_law 926 = .ok (.iconst 2, 1) := by decide +kernel
theorem dL_law_927 : decode cL_law 927 = .ok (.iadd, 1) := by decide +kernel
theorem dL_law_928 : decode cL_law 928 = .ok (.iaload, 1) := by decide +kernel
theorem dL_law_929 : decode cL_law 929 = .ok (.invokevirtual 124, 3) := by decide +kernel
theorem dL_law_932 : decode cL_law 932 = .ok (.if_icmp .eq 460, 3) := by decide +kernel
theorem dL_law_935 : decode cL_law 935 = .ok (.iconst 0, 1) := by decide +kernel
theorem dL_law_936 : decode cL_law 936 = .ok (.ireturn, 1) := by decide +kernel
theorem dL_law_937 : decode cL_law 937 = .ok (.aload_n 1, 1) := by decide +kernel
theorem dL_law_938 : decode cL_law 938 = .ok (.aload_n 0, 1) := by decide +kernel
theorem dL_law_939 : decode cL_law 939 = .ok (.iload_n 3, 1) := by decide +kernel
theorem dL_law_940 : decode cL_law 940 = .ok (.iconst 1, 1) := by decide +kernel
theorem dL_law_941 : decode cL_law 941 = .ok (.iadd, 1) := by decide +kernel
theorem dL_law_942 : decode cL_law 942 = .ok (.iaload, 1) := by decide +kernel
theorem dL_law_943 : decode cL_law 943 = .ok (.invokevirtual 125, 3) := by decide +kernel
theorem dL_law_946 : decode cL_law 946 = .ok (.aload_n 2, 1) := by decide +kernel
theorem dL_law_947 : decode cL_law 947 = .ok (.aload_n 0, 1) := by decide +kernel
theorem dL_law_948 : decode cL_law 948 = .ok (.iload_n 3, 1) := by decide +kernel
theorem dL_law_949 : decode cL_law 949 = .ok (.iconst 1, 1) := by decide +kernel
theorem dL_law_950 : decode cL_law 950 = .ok (.iadd, 1) := by decide +kernel
theorem dL_law_951 : decode cL_law 951 = .ok (.iaload, 1) := by decide +kernel
theorem dL_law_952 : decode cL_law 952 = .ok (.invokevirtual 128, 3) := by decide +kernel
theorem dL_law_955 : decode cL_law 955 = .ok (.if_icmp .eq 437, 3) := by decide +kernel
theorem dL_law_958 : decode cL_law 958 = .ok (.iconst 0, 1) := by decide +kernel
theorem dL_law_959 : decode cL_law 959 = .ok (.ireturn, 1) := by decide +kernel
theorem dL_law_960 : decode cL_law 960 = .ok (.aload_n 1, 1) := by decide +kernel
theorem dL_law_961 : decode cL_law 961 = .ok (.aload_n 0, 1) := by decide +kernel
theorem dL_law_962 : decode cL_law 962 = .ok (.iload_n 3, 1) := by decide +kernel
theorem dL_law_963 : decode cL_law 963 = .ok (.iconst 1, 1) := by decide +kernel
theorem dL_law_964 : decode cL_law 964 = .ok (.iadd, 1) := by decide +kernel
theorem dL_law_965 : decode cL_law 965 = .ok (.iaload, 1) := by decide +kernel
theorem dL_law_966 : decode cL_law 966 = .ok (.aload_n 0, 1) := by decide +kernel
theorem dL_law_967 : decode cL_law 967 = .ok (.iload_n 3, 1) := by decide +kernel
theorem dL_law_968 : decode cL_law 968 = .ok (.iconst 2, 1) := by decide +kernel
theorem dL_law_969 : decode cL_law 969 = .ok (.iadd, 1) := by decide +kernel
theorem dL_law_970 : decode cL_law 970 = .ok (.iaload, 1) := by decide +kernel
theorem dL_law_971 : decode cL_law 971 = .ok (.aload_n 0, 1) := by decide +kernel
theorem dL_law_972 : decode cL_law 972 = .ok (.iload_n 3, 1) := by decide +kernel
theorem dL_law_973 : decode cL_law 973 = .ok (.iconst 3, 1) := by decide +kernel
theorem dL_law_974 : decode cL_law 974 = .ok (.iadd, 1) := by decide +kernel
theorem dL_law_975 : decode cL_law 975 = .ok (.iaload, 1) := by decide +kernel
theorem dL_law_976 : decode cL_law 976 = .ok (.invokevirtual 129, 3) := by decide +kernel
theorem dL_law_979 : decode cL_law 979 = .ok (.aload_n 2, 1) := by decide +kernel
theorem dL_law_980 : decode cL_law 980 = .ok (.aload_n 0, 1) := by decide +kernel
theorem dL_law_981 : decode cL_law 981 = .ok (.iload_n 3, 1) := by decide +kernel
theorem dL_law_982 : decode cL_law 982 = .ok (.iconst 1, 1) := by decide +kernel
theorem dL_law_983 : decode cL_law 983 = .ok (.iadd, 1) := by decide +kernel
theorem dL_law_984 : decode cL_law 984 = .ok (.iaload, 1) := by decide +kernel
theorem dL_law_985 : decode cL_law 985 = .ok (.aload_n 0, 1) := by decide +kernel
theorem dL_law_986 : decode cL_law 986 = .ok (.iload_n 3, 1) := by decide +kernel
theorem dL_law_987 : decode cL_law 987 = .ok (.iconst 2, 1) := by decide +kernel
theorem dL_law_988 : decode cL_law 988 = .ok (.iadd, 1) := by decide +kernel
theorem dL_law_989 : decode cL_law 989 = .ok (.iaload, 1) := by decide +kernel
theorem dL_law_990 : decode cL_law 990 = .ok (.aload_n 0, 1) := by decide +kernel
theorem dL_law_991 : decode cL_law 991 = .ok (.iload_n 3, 1) := by decide +kernel
theorem dL_law_992 : decode cL_law 992 = .ok (.iconst 3, 1) := by decide +kernel
theorem dL_law_993 : decode cL_law 993 = .ok (.iadd, 1) := by decide +kernel
theorem dL_law_994 : decode cL_law 994 = .ok (.iaload, 1) := by decide +kernel
theorem dL_law_995 : decode cL_law 995 = .ok (.invokevirtual 132, 3) := by decide +kernel
theorem dL_law_998 : decode cL_law 998 = .ok (.if_icmp .eq 394, 3) := by decide +kernel
theorem dL_law_1001 : decode cL_law 1001 = .ok (.iconst 0, 1) := by decide +kernel
theorem dL_law_1002 : decode cL_law 1002 = .ok (.ireturn, 1) := by decide +kernel
theorem dL_law_1003 : decode cL_law 1003 = .ok (.aload_n 1, 1) := by decide +kernel
theorem dL_law_1004 : decode cL_law 1004 = .ok (.aload_n 0, 1) := by decide +kernel
theorem dL_law_1005 : decode cL_law 1005 = .ok (.iload_n 3, 1) := by decide +kernel
theorem dL_law_1006 : decode cL_law 1006 = .ok (.iconst 1, 1) := by decide +kernel
theorem dL_law_1007 : decode cL_law 1007 = .ok (.iadd, 1) := by decide +kernel
theorem dL_law_1008 : decode cL_law 1008 = .ok (.iaload, 1) := by decide +kernel
theorem dL_law_1009 : decode cL_law 1009 = .ok (.aload_n 0, 1) := by decide +kernel
theorem dL_law_1010 : decode cL_law 1010 = .ok (.iload_n 3, 1) := by decide +kernel
theorem dL_law_1011 : decode cL_law 1011 = .ok (.iconst 2, 1) := by decide +kernel
theorem dL_law_1012 : decode cL_law 1012 = .ok (.iadd, 1) := by decide +kernel
theorem dL_law_1013 : decode cL_law 1013 = .ok (.iaload, 1) := by decide +kernel
theorem dL_law_1014 : decode cL_law 1014 = .ok (.aload_n 0, 1) := by decide +kernel
theorem dL_law_1015 : decode cL_law 1015 = .ok (.iload_n 3, 1) := by decide +kernel
theorem dL_law_1016 : decode cL_law 1016 = .ok (.iconst 3, 1) := by decide +kernel
theorem dL_law_1017 : decode cL_law 1017 = .ok (.iadd, 1) := by decide +kernel
theorem dL_law_1018 : decode cL_law 1018 = .ok (.iaload, 1) := by decide +kernel
theorem dL_law_1019 : decode cL_law 1019 = .ok (.invokevirtual 133, 3) := by decide +kernel
theorem dL_law_1022 : decode cL_law 1022 = .ok (.aload_n 2, 1) := by decide +kernel
theorem dL_law_1023 : decode cL_law 1023 = .ok (.aload_n 0, 1) := by decide +kernel
theorem dL_law_1024 : decode cL_law 1024 = .ok (.iload_n 3, 1) := by decide +kernel
theorem dL_law_1025 : decode cL_law 1025 = .ok (.iconst 1, 1) := by decide +kernel
theorem dL_law_1026 : decode cL_law 1026 = .ok (.iadd, 1) := by decide +kernel
theorem dL_law_1027 : decode cL_law 1027 = .ok (.iaload, 1) := by decide +kernel
theorem dL_law_1028 : decode cL_law 1028 = .ok (.aload_n 0, 1) := by decide +kernel
theorem dL_law_1029 : decode cL_law 1029 = .ok (.iload_n 3, 1) := by decide +kernel
theorem dL_law_1030 : decode cL_law 1030 = .ok (.iconst 2, 1) := by decide +kernel
theorem dL_law_1031 : decode cL_law 1031 = .ok (.iadd, 1) := by decide +kernel
theorem dL_law_1032 : decode cL_law 1032 = .ok (.iaload, 1) := by decide +kernel
theorem dL_law_1033 : decode cL_law 1033 = .ok (.aload_n 0, 1) := by decide +kernel
theorem dL_law_1034 : decode cL_law 1034 = .ok (.iload_n 3, 1) := by decide +kernel
theorem dL_law_1035 : decode cL_law 1035 = .ok (.iconst 3, 1) := by decide +kernel
theorem dL_law_1036 : decode cL_law 1036 = .ok (.iadd, 1) := by decide +kernel
theorem dL_law_1037 : decode cL_law 1037 = .ok (.iaload, 1) := by decide +kernel
theorem dL_law_1038 : decode cL_law 1038 = .ok (.invokevirtual 136, 3) := by decide +kernel
theorem dL_law_1041 : decode cL_law 1041 = .ok (.if_icmp .eq 351, 3) := by decide +kernel
theorem dL_law_1044 : decode cL_law 1044 = .ok (.iconst 0, 1) := by decide +kernel
theorem dL_law_1045 : decode cL_law 1045 = .ok (.ireturn, 1) := by decide +kernel
theorem dL_law_1046 : decode cL_law 1046 = .ok (.aload_n 1, 1) := by decide +kernel
theorem dL_law_1047 : decode cL_law 1047 = .ok (.aload_n 0, 1) := by decide +kernel
theorem dL_law_1048 : decode cL_law 1048 = .ok (.iload_n 3, 1) := by decide +kernel
theorem dL_law_1049 : decode cL_law 1049 = .ok (.iconst 1, 1) := by decide +kernel
theorem dL_law_1050 : decode cL_law 1050 = .ok (.iadd, 1) := by decide +kernel
theorem dL_law_1051 : decode cL_law 1051 = .ok (.iaload, 1) := by decide +kernel
theorem dL_law_1052 : decode cL_law 1052 = .ok (.invokevirtual 137, 3) := by decide +kernel
theorem dL_law_1055 : decode cL_law 1055 = .ok (.aload_n 2, 1) := by decide +kernel
theorem dL_law_1056 : decode cL_law 1056 = .ok (.aload_n 0, 1) := by decide +kernel
theorem dL_law_1057 : decode cL_law 1057 = .ok (.iload_n 3, 1) := by decide +kernel
theorem dL_law_1058 : decode cL_law 1058 = .ok (.iconst 1, 1) := by decide +kernel
theorem dL_law_1059 : decode cL_law 1059 = .ok (.iadd, 1) := by decide +kernel
theorem dL_law_1060 : decode cL_law 1060 = .ok (.iaload, 1) := by decide +kernel
theorem dL_law_1061 : decode cL_law 1061 = .ok (.invokevirtual 140, 3) := by decide +kernel
theorem dL_law_1064 : decode cL_law 1064 = .ok (.if_icmp .eq 328, 3) := by decide +kernel
theorem dL_law_1067 : decode cL_law 1067 = .ok (.iconst 0, 1) := by decide +kernel
theorem dL_law_1068 : decode cL_law 1068 = .ok (.ireturn, 1) := by decide +kernel
theorem dL_law_1069 : decode cL_law 1069 = .ok (.aload_n 1, 1) := by decide +kernel
theorem dL_law_1070 : decode cL_law 1070 = .ok (.aload_n 0, 1) := by decide +kernel
theorem dL_law_1071 : decode cL_law 1071 = .ok (.iload_n 3, 1) := by decide +kernel
theorem dL_law_1072 : decode cL_law 1072 = .ok (.iconst 1, 1) := by decide +kernel
theorem dL_law_1073 : decode cL_law 1073 = .ok (.iadd, 1) := by decide +kernel
theorem dL_law_1074 : decode cL_law 1074 = .ok (.iaload, 1) := by decide +kernel
theorem dL_law_1075 : decode cL_law 1075 = .ok (.invokevirtual 141, 3) := by decide +kernel
theorem dL_law_1078 : decode cL_law 1078 = .ok (.aload_n 2, 1) := by decide +kernel
theorem dL_law_1079 : decode cL_law 1079 = .ok (.aload_n 0, 1) := by decide +kernel
theorem dL_law_1080 : decode cL_law 1080 = .ok (.iload_n 3, 1) := by decide +kernel
theorem dL_law_1081 : decode cL_law 1081 = .ok (.iconst 1, 1) := by decide +kernel
theorem dL_law_1082 : decode cL_law 1082 = .ok (.iadd, 1) := by decide +kernel
theorem dL_law_1083 : decode cL_law 1083 = .ok (.iaload, 1) := by decide +kernel
theorem dL_law_1084 : decode cL_law 1084 = .ok (.invokevirtual 144, 3) := by decide +kernel
theorem dL_law_1087 : decode cL_law 1087 = .ok (.if_icmp .eq 305, 3) := by decide +kernel
theorem dL_law_1090 : decode cL_law 1090 = .ok (.iconst 0, 1) := by decide +kernel
theorem dL_law_1091 : decode cL_law 1091 = .ok (.ireturn, 1) := by decide +kernel
theorem dL_law_1092 : decode cL_law 1092 = .ok (.aload_n 1, 1) := by decide +kernel
theorem dL_law_1093 : decode cL_law 1093 = .ok (.aload_n 0, 1) := by decide +kernel
theorem dL_law_1094 : decode cL_law 1094 = .ok (.iload_n 3, 1) := by decide +kernel
theorem dL_law_1095 : decode cL_law 1095 = .ok (.iconst 1, 1) := by decide +kernel
theorem dL_law_1096 : decode cL_law 1096 = .ok (.iadd, 1) := by decide +kernel
theorem dL_law_1097 : decode cL_law 1097 = .ok (.iaload, 1) := by decide +kernel
theorem dL_law_1098 : decode cL_law 1098 = .ok (.aload_n 0, 1) := by decide +kernel
theorem dL_law_1099 : decode cL_law 1099 = .ok (.iload_n 3, 1) := by decide +kernel
theorem dL_law_1100 : decode cL_law 1100 = .ok (.iconst 2, 1) := by decide +kernel
theorem dL_law_1101 : decode cL_law 1101 = .ok (.iadd, 1) := by decide +kernel
theorem dL_law_1102 : decode cL_law 1102 = .ok (.iaload, 1) := by decide +kernel
theorem dL_law_1103 : decode cL_law 1103 = .ok (.aload_n 0, 1) := by decide +kernel
theorem dL_law_1104 : decode cL_law 1104 = .ok (.iload_n 3, 1) := by decide +kernel
theorem dL_law_1105 : decode cL_law 1105 = .ok (.iconst 3, 1) := by decide +kernel
theorem dL_law_1106 : decode cL_law 1106 = .ok (.iadd, 1) := by decide +kernel
theorem dL_law_1107 : decode cL_law 1107 = .ok (.iaload, 1) := by decide +kernel
theorem dL_law_1108 : decode cL_law 1108 = .ok (.aload_n 0, 1) := by decide +kernel
theorem dL_law_1109 : decode cL_law 1109 = .ok (.iload_n 3, 1) := by decide +kernel
theorem dL_law_1110 : decode cL_law 1110 = .ok (.iconst 4, 1) := by decide +kernel
theorem dL_law_1111 : decode cL_law 1111 = .ok (.iadd, 1) := by decide +kernel
theorem dL_law_1112 : decode cL_law 1112 = .ok (.iaload, 1) := by decide +kernel
theorem dL_law_1113 : decode cL_law 1113 = .ok (.aload_n 0, 1) := by decide +kernel
theorem dL_law_1114 : decode cL_law 1114 = .ok (.iload_n 3, 1) := by decide +kernel
theorem dL_law_1115 : decode cL_law 1115 = .ok (.iconst 5, 1) := by decide +kernel
theorem dL_law_1116 : decode cL_law 1116 = .ok (.iadd, 1) := by decide +kernel
theorem dL_law_1117 : decode cL_law 1117 = .ok (.iaload, 1) := by decide +kernel
theorem dL_law_1118 : decode cL_law 1118 = .ok (.invokevirtual 145, 3) := by decide +kernel
theorem dL_law_1121 : decode cL_law 1121 = .ok (.aload_n 2, 1) := by decide +kernel
theorem dL_law_1122 : decode cL_law 1122 = .ok (.aload_n 0, 1) := by decide +kernel
theorem dL_law_1123 : decode cL_law 1123 = .ok (.iload_n 3, 1) := by decide +kernel
theorem dL_law_1124 : decode cL_law 1124 = .ok (.iconst 1, 1) := by decide +kernel
theorem dL_law_1125 : decode cL_law 1125 = .ok (.iadd, 1) := by decide +kernel
theorem dL_law_1126 : decode cL_law 1126 = .ok (.iaload, 1) := by decide +kernel
theorem dL_law_1127 : decode cL_law 1127 = .ok (.aload_n 0, 1) := by decide +kernel
theorem dL_law_1128 : decode cL_law 1128 = .ok (.iload_n 3, 1) := by decide +kernel
theorem dL_law_1129 : decode cL_law 1129 = .ok (.iconst 2, 1) := by decide +kernel
theorem dL_law_1130 : decode cL_law 1130 = .ok (.iadd, 1) := by decide +kernel
theorem dL_law_1131 : decode cL_law 1131 = .ok (.iaload, 1) := by decide +kernel
theorem dL_law_1132 : decode cL_law 1132 = .ok (.aload_n 0, 1) := by decide +kernel
theorem dL_law_1133 : decode cL_law 1133 = .ok (.iload_n 3, 1) := by decide +kernel
theorem dL_law_1134 : decode cL_law 1134 = .ok (.iconst 3, 1) := by decide +kernel
theorem dL_law_1135 : decode cL_law 1135 = .ok (.iadd, 1) := by decide +kernel
theorem dL_law_1136 : decode cL_law 1136 = .ok (.iaload, 1) := by decide +kernel
theorem dL_law_1137 : decode cL_law 1137 = .ok (.aload_n 0, 1) := by decide +kernel
theorem dL_law_1138 : decode cL_law 1138 = .ok (.iload_n 3, 1) := by decide +kernel
theorem dL_law_1139 : decode cL_law 1139 = .ok (.iconst 4, 1) := by decide +kernel
theorem dL_law_1140 : decode cL_law 1140 = .ok (.iadd, 1) := by decide +kernel
theorem dL_law_1141 : decode cL_law 1141 = .ok (.iaload, 1) := by decide +kernel
theorem dL_law_1142 : decode cL_law 1142 = .ok (.aload_n 0, 1) := by decide +kernel
theorem dL_law_1143 : decode cL_law 1143 = .ok (.iload_n 3, 1) := by decide +kernel
theorem dL_law_1144 : decode cL_law 1144 = .ok (.iconst 5, 1) := by decide +kernel
theorem dL_law_1145 : decode cL_law 1145 = .ok (.iadd, 1) := by decide +kernel
theorem dL_law_1146 : decode cL_law 1146 = .ok (.iaload, 1) := by decide +kernel
theorem dL_law_1147 : decode cL_law 1147 = .ok (.invokevirtual 149, 3) := by decide +kernel
theorem dL_law_1150 : decode cL_law 1150 = .ok (.if_icmp .eq 242, 3) := by decide +kernel
theorem dL_law_1153 : decode cL_law 1153 = .ok (.iconst 0, 1) := by decide +kernel
theorem dL_law_1154 : decode cL_law 1154 = .ok (.ireturn, 1) := by decide +kernel
theorem dL_law_1155 : decode cL_law 1155 = .ok (.aload_n 1, 1) := by decide +kernel
theorem dL_law_1156 : decode cL_law 1156 = .ok (.aload_n 0, 1) := by decide +kernel
theorem dL_law_1157 : decode cL_law 1157 = .ok (.iload_n 3, 1) := by decide +kernel
theorem dL_law_1158 : decode cL_law 1158 = .ok (.iconst 1, 1) := by decide +kernel
theorem dL_law_1159 : decode cL_law 1159 = .ok (.iadd, 1) := by decide +kernel
theorem dL_law_1160 : decode cL_law 1160 = .ok (.iaload, 1) := by decide +kernel
theorem dL_law_1161 : decode cL_law 1161 = .ok (.aload_n 0, 1) := by decide +kernel
theorem dL_law_1162 : decode cL_law 1162 = .ok (.iload_n 3, 1) := by decide +kernel
theorem dL_law_1163 : decode cL_law 1163 = .ok (.iconst 2, 1) := by decide +kernel
theorem dL_law_1164 : decode cL_law 1164 = .ok (.iadd, 1) := by decide +kernel
theorem dL_law_1165 : decode cL_law 1165 = .ok (.iaload, 1) := by decide +kernel
theorem dL_law_1166 : decode cL_law 1166 = .ok (.aload_n 0, 1) := by decide +kernel
theorem dL_law_1167 : decode cL_law 1167 = .ok (.iload_n 3, 1) := by decide +kernel
theorem dL_law_1168 : decode cL_law 1168 = .ok (.iconst 3, 1) := by decide +kernel
theorem dL_law_1169 : decode cL_law 1169 = .ok (.iadd, 1) := by decide +kernel
theorem dL_law_1170 : decode cL_law 1170 = .ok (.iaload, 1) := by decide +kernel
theorem dL_law_1171 : decode cL_law 1171 = .ok (.invokevirtual 150, 3) := by decide +kernel
theorem dL_law_1174 : decode cL_law 1174 = .ok (.aload_n 2, 1) := by decide +kernel
theorem dL_law_1175 : decode cL_law 1175 = .ok (.aload_n 0, 1) := by decide +kernel
theorem dL_law_1176 : decode cL_law 1176 = .ok (.iload_n 3, 1) := by decide +kernel
theorem dL_law_1177 : decode cL_law 1177 = .ok (.iconst 1, 1) := by decide +kernel
theorem dL_law_1178 : decode cL_law 1178 = .ok (.iadd, 1) := by decide +kernel
theorem dL_law_1179 : decode cL_law 1179 = .ok (.iaload, 1) := by decide +kernel
theorem dL_law_1180 : decode cL_law 1180 = .ok (.aload_n 0, 1) := by decide +kernel
theorem dL_law_1181 : decode cL_law 1181 = .ok (.iload_n 3, 1) := by decide +kernel
theorem dL_law_1182 : decode cL_law 1182 = .ok (.iconst 2, 1) := by decide +kernel
theorem dL_law_1183 : decode cL_law 1183 = .ok (.iadd, 1) := by decide +kernel
theorem dL_law_1184 : decode cL_law 1184 = .ok (.iaload, 1) := by decide +kernel
theorem dL_law_1185 : decode cL_law 1185 = .ok (.aload_n 0, 1) := by decide +kernel
theorem dL_law_1186 : decode cL_law 1186 = .ok (.iload_n 3, 1) := by decide +kernel
theorem dL_law_1187 : decode cL_law 1187 = .ok (.iconst 3, 1) := by decide +kernel
theorem dL_law_1188 : decode cL_law 1188 = .ok (.iadd, 1) := by decide +kernel
theorem dL_law_1189 : decode cL_law 1189 = .ok (.iaload, 1) := by decide +kernel
theorem dL_law_1190 : decode cL_law 1190 = .ok (.invokevirtual 153, 3) := by decide +kernel
theorem dL_law_1193 : decode cL_law 1193 = .ok (.if_icmp .eq 199, 3) := by decide +kernel
theorem dL_law_1196 : decode cL_law 1196 = .ok (.iconst 0, 1) := by decide +kernel
theorem dL_law_1197 : decode cL_law 1197 = .ok (.ireturn, 1) := by decide +kernel
theorem dL_law_1198 : decode cL_law 1198 = .ok (.aload_n 1, 1) := by decide +kernel
theorem dL_law_1199 : decode cL_law 1199 = .ok (.aload_n 0, 1) := by decide +kernel
theorem dL_law_1200 : decode cL_law 1200 = .ok (.iload_n 3, 1) := by decide +kernel
theorem dL_law_1201 : decode cL_law 1201 = .ok (.iconst 1, 1) := by decide +kernel
theorem dL_law_1202 : decode cL_law 1202 = .ok (.iadd, 1) := by decide +kernel
theorem dL_law_1203 : decode cL_law 1203 = .ok (.iaload, 1) := by decide +kernel
theorem dL_law_1204 : decode cL_law 1204 = .ok (.aload_n 0, 1) := by decide +kernel
theorem dL_law_1205 : decode cL_law 1205 = .ok (.iload_n 3, 1) := by decide +kernel
theorem dL_law_1206 : decode cL_law 1206 = .ok (.iconst 2, 1) := by decide +kernel
theorem dL_law_1207 : decode cL_law 1207 = .ok (.iadd, 1) := by decide +kernel
theorem dL_law_1208 : decode cL_law 1208 = .ok (.iaload, 1) := by decide +kernel
theorem dL_law_1209 : decode cL_law 1209 = .ok (.invokevirtual 154, 3) := by decide +kernel
theorem dL_law_1212 : decode cL_law 1212 = .ok (.aload_n 2, 1) := by decide +kernel
theorem dL_law_1213 : decode cL_law 1213 = .ok (.aload_n 0, 1) := by decide +kernel
theorem dL_law_1214 : decode cL_law 1214 = .ok (.iload_n 3, 1) := by decide +kernel
theorem dL_law_1215 : decode cL_law 1215 = .ok (.iconst 1, 1) := by decide +kernel
theorem dL_law_1216 : decode cL_law 1216 = .ok (.iadd, 1) := by decide +kernel
theorem dL_law_1217 : decode cL_law 1217 = .ok (.iaload, 1) := by decide +kernel
theorem dL_law_1218 : decode cL_law 1218 = .ok (.aload_n 0, 1) := by decide +kernel
theorem dL_law_1219 : decode cL_law 1219 = .ok (.iload_n 3, 1) := by decide +kernel
theorem dL_law_1220 : decode cL_law 1220 = .ok (.iconst 2, 1) := by decide +kernel
theorem dL_law_1221 : decode cL_law 1221 = .ok (.iadd, 1) := by decide +kernel
theorem dL_law_1222 : decode cL_law 1222 = .ok (.iaload, 1) := by decide +kernel
theorem dL_law_1223 : decode cL_law 1223 = .ok (.invokevirtual 157, 3) := by decide +kernel
theorem dL_law_1226 : decode cL_law 1226 = .ok (.if_icmp .eq 166, 3) := by decide +kernel
theorem dL_law_1229 : decode cL_law 1229 = .ok (.iconst 0, 1) := by decide +kernel
theorem dL_law_1230 : decode cL_law 1230 = .ok (.ireturn, 1) := by decide +kernel
theorem dL_law_1231 : decode cL_law 1231 = .ok (.aload_n 1, 1) := by decide +kernel
theorem dL_law_1232 : decode cL_law 1232 = .ok (.aload_n 0, 1) := by decide +kernel
theorem dL_law_1233 : decode cL_law 1233 = .ok (.iload_n 3, 1) := by decide +kernel
theorem dL_law_1234 : decode cL_law 1234 = .ok (.iconst 1, 1) := by decide +kernel
theorem dL_law_1235 : decode cL_law 1235 = .ok (.iadd, 1) := by decide +kernel
theorem dL_law_1236 : decode cL_law 1236 = .ok (.iaload, 1) := by decide +kernel
theorem dL_law_1237 : decode cL_law 1237 = .ok (.aload_n 0, 1) := by decide +kernel
theorem dL_law_1238 : decode cL_law 1238 = .ok (.iload_n 3, 1) := by decide +kernel
theorem dL_law_1239 : decode cL_law 1239 = .ok (.iconst 2, 1) := by decide +kernel
theorem dL_law_1240 : decode cL_law 1240 = .ok (.iadd, 1) := by decide +kernel
theorem dL_law_1241 : decode cL_law 1241 = .ok (.iaload, 1) := by decide +kernel
theorem dL_law_1242 : decode cL_law 1242 = .ok (.invokevirtual 158, 3) := by decide +kernel
theorem dL_law_1245 : decode cL_law 1245 = .ok (.aload_n 2, 1) := by decide +kernel
theorem dL_law_1246 : decode cL_law 1246 = .ok (.aload_n 0, 1) := by decide +kernel
theorem dL_law_1247 : decode cL_law 1247 = .ok (.iload_n 3, 1) := by decide +kernel
theorem dL_law_1248 : decode cL_law 1248 = .ok (.iconst 1, 1) := by decide +kernel
theorem dL_law_1249 : decode cL_law 1249 = .ok (.iadd, 1) := by decide +kernel
theorem dL_law_1250 : decode cL_law 1250 = .ok (.iaload, 1) := by decide +kernel
theorem dL_law_1251 : decode cL_law 1251 = .ok (.aload_n 0, 1) := by decide +kernel
theorem dL_law_1252 : decode cL_law 1252 = .ok (.iload_n 3, 1) := by decide +kernel
theorem dL_law_1253 : decode cL_law 1253 = .ok (.iconst 2, 1) := by decide +kernel
theorem dL_law_1254 : decode cL_law 1254 = .ok (.iadd, 1) := by decide +kernel
theorem dL_law_1255 : decode cL_law 1255 = .ok (.iaload, 1) := by decide +kernel
theorem dL_law_1256 : decode cL_law 1256 = .ok (.invokevirtual 161, 3) := by decide +kernel
theorem dL_law_1259 : decode cL_law 1259 = .ok (.if_icmp .eq 133, 3) := by decide +kernel
theorem dL_law_1262 : decode cL_law 1262 = .ok (.iconst 0, 1) := by decide +kernel
theorem dL_law_1263 : decode cL_law 1263 = .ok (.ireturn, 1) := by decide +kernel
theorem dL_law_1264 : decode cL_law 1264 = .ok (.aload_n 1, 1) := by decide +kernel
theorem dL_law_1265 : decode cL_law 1265 = .ok (.aload_n 0, 1) := by decide +kernel
theorem dL_law_1266 : decode cL_law 1266 = .ok (.iload_n 3, 1) := by decide +kernel
theorem dL_law_1267 : decode cL_law 1267 = .ok (.iconst 1, 1) := by decide +kernel
theorem dL_law_1268 : decode cL_law 1268 = .ok (.iadd, 1) := by decide +kernel
theorem dL_law_1269 : decode cL_law 1269 = .ok (.iaload, 1) := by decide +kernel
theorem dL_law_1270 : decode cL_law 1270 = .ok (.aload_n 0, 1) := by decide +kernel
theorem dL_law_1271 : decode cL_law 1271 = .ok (.iload_n 3, 1) := by decide +kernel
theorem dL_law_1272 : decode cL_law 1272 = .ok (.iconst 2, 1) := by decide +kernel
theorem dL_law_1273 : decode cL_law 1273 = .ok (.iadd, 1) := by decide +kernel
theorem dL_law_1274 : decode cL_law 1274 = .ok (.iaload, 1) := by decide +kernel
theorem dL_law_1275 : decode cL_law 1275 = .ok (.invokevirtual 162, 3) := by decide +kernel
theorem dL_law_1278 : decode cL_law 1278 = .ok (.aload_n 2, 1) := by decide +kernel
theorem dL_law_1279 : decode cL_law 1279 = .ok (.aload_n 0, 1) := by decide +kernel
theorem dL_law_1280 : decode cL_law 1280 = .ok (.iload_n 3, 1) := by decide +kernel
theorem dL_law_1281 : decode cL_law 1281 = .ok (.iconst 1, 1) := by decide +kernel
theorem dL_law_1282 : decode cL_law 1282 = .ok (.iadd, 1) := by decide +kernel
theorem dL_law_1283 : decode cL_law 1283 = .ok (.iaload, 1) := by decide +kernel
theorem dL_law_1284 : decode cL_law 1284 = .ok (.aload_n 0, 1) := by decide +kernel
theorem dL_law_1285 : decode cL_law 1285 = .ok (.iload_n 3, 1) := by decide +kernel
theorem dL_law_1286 : decode cL_law 1286 = .ok (.iconst 2, 1) := by decide +kernel
theorem dL_law_1287 : decode cL_law 1287 = .ok (.iadd, 1) := by decide +kernel
theorem dL_law_1288 : decode cL_law 1288 = .ok (.iaload, 1) := by decide +kernel
theorem dL_law_1289 : decode cL_law 1289 = .ok (.invokevirtual 165, 3) := by decide +kernel
theorem dL_law_1292 : decode cL_law 1292 = .ok (.if_icmp .eq 100, 3) := by decide +kernel
theorem dL_law_1295 : decode cL_law 1295 = .ok (.iconst 0, 1) := by decide +kernel
theorem dL_law_1296 : decode cL_law 1296 = .ok (.ireturn, 1) := by decide +kernel
theorem dL_law_1297 : decode cL_law 1297 = .ok (.aload_n 1, 1) := by decide +kernel
theorem dL_law_1298 : decode cL_law 1298 = .ok (.aload_n 0, 1) := by decide +kernel
theorem dL_law_1299 : decode cL_law 1299 = .ok (.iload_n 3, 1) := by decide +kernel
theorem dL_law_1300 : decode cL_law 1300 = .ok (.iconst 1, 1) := by decide +kernel
theorem dL_law_1301 : decode cL_law 1301 = .ok (.iadd, 1) := by decide +kernel
theorem dL_law_1302 : decode cL_law 1302 = .ok (.iaload, 1) := by decide +kernel
theorem dL_law_1303 : decode cL_law 1303 = .ok (.invokevirtual 166, 3) := by decide +kernel
theorem dL_law_1306 : decode cL_law 1306 = .ok (.aload_n 2, 1) := by decide +kernel
theorem dL_law_1307 : decode cL_law 1307 = .ok (.aload_n 0, 1) := by decide +kernel
theorem dL_law_1308 : decode cL_law 1308 = .ok (.iload_n 3, 1) := by decide +kernel
theorem dL_law_1309 : decode cL_law 1309 = .ok (.iconst 1, 1) := by decide +kernel
theorem dL_law_1310 : decode cL_law 1310 = .ok (.iadd, 1) := by decide +kernel
theorem dL_law_1311 : decode cL_law 1311 = .ok (.iaload, 1) := by decide +kernel
theorem dL_law_1312 : decode cL_law 1312 = .ok (.invokevirtual 169, 3) := by decide +kernel
theorem dL_law_1315 : decode cL_law 1315 = .ok (.if_icmp .eq 77, 3) := by decide +kernel
theorem dL_law_1318 : decode cL_law 1318 = .ok (.iconst 0, 1) := by decide +kernel
theorem dL_law_1319 : decode cL_law 1319 = .ok (.ireturn, 1) := by decide +kernel
theorem dL_law_1320 : decode cL_law 1320 = .ok (.aload_n 1, 1) := by decide +kernel
theorem dL_law_1321 : decode cL_law 1321 = .ok (.aload_n 0, 1) := by decide +kernel
theorem dL_law_1322 : decode cL_law 1322 = .ok (.iload_n 3, 1) := by decide +kernel
theorem dL_law_1323 : decode cL_law 1323 = .ok (.iconst 1, 1) := by decide +kernel
theorem dL_law_1324 : decode cL_law 1324 = .ok (.iadd, 1) := by decide +kernel
theorem dL_law_1325 : decode cL_law 1325 = .ok (.iaload, 1) := by decide +kernel
theorem dL_law_1326 : decode cL_law 1326 = .ok (.invokevirtual 170, 3) := by decide +kernel
theorem dL_law_1329 : decode cL_law 1329 = .ok (.aload_n 2, 1) := by decide +kernel
theorem dL_law_1330 : decode cL_law 1330 = .ok (.aload_n 0, 1) := by decide +kernel
theorem dL_law_1331 : decode cL_law 1331 = .ok (.iload_n 3, 1) := by decide +kernel
theorem dL_law_1332 : decode cL_law 1332 = .ok (.iconst 1, 1) := by decide +kernel
theorem dL_law_1333 : decode cL_law 1333 = .ok (.iadd, 1) := by decide +kernel
theorem dL_law_1334 : decode cL_law 1334 = .ok (.iaload, 1) := by decide +kernel
theorem dL_law_1335 : decode cL_law 1335 = .ok (.invokevirtual 173, 3) := by decide +kernel
theorem dL_law_1338 : decode cL_law 1338 = .ok (.if_icmp .eq 54, 3) := by decide +kernel
theorem dL_law_1341 : decode cL_law 1341 = .ok (.iconst 0, 1) := by decide +kernel
theorem dL_law_1342 : decode cL_law 1342 = .ok (.ireturn, 1) := by decide +kernel
theorem dL_law_1343 : decode cL_law 1343 = .ok (.aload_n 1, 1) := by decide +kernel
theorem dL_law_1344 : decode cL_law 1344 = .ok (.invokevirtual 174, 3) := by decide +kernel
theorem dL_law_1347 : decode cL_law 1347 = .ok (.aload_n 2, 1) := by decide +kernel
theorem dL_law_1348 : decode cL_law 1348 = .ok (.invokevirtual 177, 3) := by decide +kernel
theorem dL_law_1351 : decode cL_law 1351 = .ok (.if_icmp .eq 41, 3) := by decide +kernel
theorem dL_law_1354 : decode cL_law 1354 = .ok (.iconst 0, 1) := by decide +kernel
theorem dL_law_1355 : decode cL_law 1355 = .ok (.ireturn, 1) := by decide +kernel
theorem dL_law_1356 : decode cL_law 1356 = .ok (.aload_n 1, 1) := by decide +kernel
theorem dL_law_1357 : decode cL_law 1357 = .ok (.invokevirtual 178, 3) := by decide +kernel
theorem dL_law_1360 : decode cL_law 1360 = .ok (.aload_n 2, 1) := by decide +kernel
theorem dL_law_1361 : decode cL_law 1361 = .ok (.invokevirtual 181, 3) := by decide +kernel
theorem dL_law_1364 : decode cL_law 1364 = .ok (.if_icmp .eq 28, 3) := by decide +kernel
theorem dL_law_1367 : decode cL_law 1367 = .ok (.iconst 0, 1) := by decide +kernel
theorem dL_law_1368 : decode cL_law 1368 = .ok (.ireturn, 1) := by decide +kernel
theorem dL_law_1369 : decode cL_law 1369 = .ok (.aload_n 1, 1) := by decide +kernel
theorem dL_law_1370 : decode cL_law 1370 = .ok (.aload_n 0, 1) := by decide +kernel
theorem dL_law_1371 : decode cL_law 1371 = .ok (.iload_n 3, 1) := by decide +kernel
theorem dL_law_1372 : decode cL_law 1372 = .ok (.iconst 1, 1) := by decide +kernel
theorem dL_law_1373 : decode cL_law 1373 = .ok (.iadd, 1) := by decide +kernel
theorem dL_law_1374 : decode cL_law 1374 = .ok (.iaload, 1) := by decide +kernel
theorem dL_law_1375 : decode cL_law 1375 = .ok (.invokevirtual 182, 3) := by decide +kernel
theorem dL_law_1378 : decode cL_law 1378 = .ok (.aload_n 2, 1) := by decide +kernel
theorem dL_law_1379 : decode cL_law 1379 = .ok (.aload_n 0, 1) := by decide +kernel
theorem dL_law_1380 : decode cL_law 1380 = .ok (.iload_n 3, 1) := by decide +kernel
theorem dL_law_1381 : decode cL_law 1381 = .ok (.iconst 1, 1) := by decide +kernel
theorem dL_law_1382 : decode cL_law 1382 = .ok (.iadd, 1) := by decide +kernel
theorem dL_law_1383 : decode cL_law 1383 = .ok (.iaload, 1) := by decide +kernel
theorem dL_law_1384 : decode cL_law 1384 = .ok (.invokevirtual 185, 3) := by decide +kernel
theorem dL_law_1387 : decode cL_law 1387 = .ok (.if_icmp .eq 5, 3) := by decide +kernel
theorem dL_law_1390 : decode cL_law 1390 = .ok (.iconst 0, 1) := by decide +kernel
theorem dL_law_1391 : decode cL_law 1391 = .ok (.ireturn, 1) := by decide +kernel
theorem dL_law_1392 : decode cL_law 1392 = .ok (.iinc 3 6, 3) := by decide +kernel
theorem dL_law_1395 : decode cL_law 1395 = .ok (.goto (-1377), 3) := by decide +kernel
theorem dL_law_1398 : decode cL_law 1398 = .ok (.iconst 1, 1) := by decide +kernel
theorem dL_law_1399 : decode cL_law 1399 = .ok (.ireturn, 1) := by decide +kernel
